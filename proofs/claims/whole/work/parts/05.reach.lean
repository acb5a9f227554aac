/-! reaching: levels of 'has a way to t with no setter inside', searched backwards by the one side, forwards by the other -/
def il_ex (p : Nat → Bool) : Nat → Bool
  | 0 => false
  | n + 1 => il_ex p n || p n
theorem il_ex_b {p : Nat → Bool} : ∀ n, il_ex p n = true ↔ ∃ c, c < n ∧ p c = true := by
  intro n
  induction n with
  | zero =>
    constructor
    · intro h; cases h
    · rintro ⟨c, hc, _⟩; omega
  | succ n ih =>
    show (il_ex p n || p n) = true ↔ _
    rw [Bool.or_eq_true, ih]
    constructor
    · rintro (⟨c, hc, h⟩ | h)
      · exact ⟨c, by omega, h⟩
      · exact ⟨n, by omega, h⟩
    · rintro ⟨c, hc, h⟩
      by_cases z : c = n
      · subst z
        exact Or.inr h
      · exact Or.inl ⟨c, by omega, h⟩
def il_ro (A S : Nat → Int32) (t v : Nat) (R : Nat → Bool) (a : Nat) : Bool := il_ex (fun c => bt (A a) c && (decide (c = t) || (!bt (S c) v && R c))) 12
def il_rb (A S : Nat → Int32) (t v : Nat) : Nat → Nat → Bool
  | 0 => fun _ => false
  | n + 1 => fun a => il_ro A S t v (il_rb A S t v n) a
theorem il_ro_b {A S : Nat → Int32} {t v : Nat} {R : Nat → Bool} {a : Nat} : il_ro A S t v R a = true ↔ ∃ c, c < 12 ∧ bt (A a) c = true ∧ (c = t ∨ (bt (S c) v = false ∧ R c = true)) := by
  unfold il_ro
  rw [il_ex_b]
  simp only [Bool.and_eq_true, Bool.or_eq_true, decide_eq_true_eq, Bool.not_eq_true']
theorem il_ro_m {A S : Nat → Int32} {t v : Nat} {R Q : Nat → Bool} {a : Nat} (h : ∀ c, c < 12 → R c = true → Q c = true) (ha : il_ro A S t v R a = true) : il_ro A S t v Q a = true := by
  rw [il_ro_b] at ha ⊢
  obtain ⟨c, hc, h1, h2⟩ := ha
  exact ⟨c, hc, h1, h2.imp id (fun z => ⟨z.1, h c hc z.2⟩)⟩
theorem il_rb_s {A S : Nat → Int32} {t v : Nat} : ∀ n b, b < 12 → il_rb A S t v n b = true → il_rb A S t v (n + 1) b = true := by
  intro n
  induction n with
  | zero => intro b hb h; cases h
  | succ n ih => exact fun b hb h => il_ro_m (R := il_rb A S t v n) (Q := il_rb A S t v (n + 1)) ih h
theorem il_rb_13 {A S : Nat → Int32} {t v b : Nat} (hb : b < 12) (h : il_ro A S t v (il_rb A S t v 12) b = true) : il_rb A S t v 12 b = true := by
  have := il_pg (il_rb A S t v) 12 il_rb_s (fun n hn b hb => by
    show il_ro A S t v (il_rb A S t v (n + 1)) b = il_ro A S t v (il_rb A S t v n) b
    apply Bool.eq_iff_iff.mpr
    exact ⟨il_ro_m (fun c hc h => by rw [← hn c hc]; exact h), il_ro_m (fun c hc h => (hn c hc).trans h)⟩) b hb
  exact this.symm.trans h
theorem il_bw_b {L : Nat → Int32} {v i : Nat} (hi : i < 32) : bt (il_bw L v 12) i = true ↔ i < 12 ∧ bt (L i) v = true := by
  unfold il_bw
  rw [il_og_b]
  constructor
  · rintro ⟨c, hc, h1, h2⟩
    rw [ib_shl (by omega) hi, decide_eq_true_eq] at h2
    subst h2
    exact ⟨hc, h1⟩
  · rintro ⟨hc, h1⟩
    exact ⟨i, hc, h1, by rw [ib_shl (by omega) hi, decide_eq_true_eq]⟩
def il_G (A S : Nat → Int32) (t v m c : Nat) : Prop := c = t ∨ (bt (S c) v = false ∧ il_rb A S t v m c = true)
/-- what blocksBefore holds after p passes -/
def il_Be (A S : Nat → Int32) (t v p : Nat) (x : Int32) : Prop := ∀ a, a < 32 → (bt x a = true ↔ a < 12 ∧ il_rb A S t v p a = true)
def il_Op (A S : Nat → Int32) (t v p : Nat) (x : Int32) : Prop := ∀ c, c < 32 → (bt x c = true ↔ c < 12 ∧ il_G A S t v p c)
theorem il_op_t {A S : Nat → Int32} {t v p : Nat} {x : Int32} {a : Nat} (ho : il_Op A S t v p x) : (A a &&& x) = 0 ↔ il_rb A S t v (p + 1) a = false := by
  rw [ib_eq0]
  constructor
  · intro h
    apply ib_tf
    intro z
    obtain ⟨c, hc, h1, h2⟩ := il_ro_b.mp z
    have h3 := h c (by omega)
    rw [b_and, h1, (ho c (by omega)).mpr ⟨hc, h2⟩] at h3
    cases h3
  · intro h i hi
    apply ib_tf
    intro z
    rw [b_and, Bool.and_eq_true] at z
    obtain ⟨hc, hG⟩ := (ho i hi).mp z.2
    have : il_rb A S t v (p + 1) a = true := il_ro_b.mpr ⟨i, hc, z.1, hG⟩
    rw [h] at this
    cases this
theorem wv_20 {post : Int32 → Prop} {J : Int32 → Int32 → Int32 → Prop} {A U S L : Nat → Int32} {t v p : Nat} {x3 x4 st : Int32} (ho : il_Op A S t v p x4) (h0 : il_Be A S t v p x3) (h : ∀ x, il_Be A S t v (p + 1) x → J x (x4 ||| (x &&& (st ^^^ (-1)))) (nI (p + 1))) : ∃ n, wX_blocksBefore_20 post J st x4 (nI p) A U S L n x3 0 := by
  refine loop_0 (fun n i x => wX_blocksBefore_20 post J st x4 (nI p) A U S L n x (nI i)) (fun i x => ∀ a, a < 32 → (bt x a = true ↔ a < 12 ∧ (il_rb A S t v p a = true ∨ (a < i ∧ il_rb A S t v (p + 1) a = true)))) 12 x3 ?_ ?_ ?_
  · intro a ha
    rw [h0 a ha]
    constructor
    · exact fun z => ⟨z.1, Or.inl z.2⟩
    · rintro ⟨z, z1 | ⟨z1, _⟩⟩
      · exact ⟨z, z1⟩
      · omega
  · intro n x hI
    refine br_t ib_e12 (nm_e (nm_r (nI_1 p) (h x ?_)))
    intro a ha
    rw [hI a ha]
    constructor
    · rintro ⟨z, z1 | ⟨z1, z2⟩⟩
      · exact ⟨z, il_rb_s p a z z1⟩
      · exact ⟨z, z2⟩
    · exact fun z => ⟨z.1, Or.inr ⟨z.1, z.2⟩⟩
  · intro n i x hi hI ih
    refine br_f (ib_12 hi) ⟨ib_in hi, ?_⟩
    rw [ib_cl hi]
    refine br_c (fun e => nm_r (nI_1 i) (ih _ ?_)) (fun e => nm_e (nm_r (nI_1 i) (ih _ ?_)))
    · rw [il_op_t ho] at e
      intro a ha
      rw [hI a ha]
      constructor
      · rintro ⟨z, z1 | ⟨z1, z2⟩⟩
        · exact ⟨z, Or.inl z1⟩
        · exact ⟨z, Or.inr ⟨by omega, z2⟩⟩
      · rintro ⟨z, z1 | ⟨z1, z2⟩⟩
        · exact ⟨z, Or.inl z1⟩
        · by_cases q : a = i
          · subst q
            rw [e] at z2
            cases z2
          · exact ⟨z, Or.inr ⟨by omega, z2⟩⟩
    · rw [il_op_t ho] at e
      intro a ha
      rw [b_or, Bool.or_eq_true, hI a ha, ib_shl (by omega) ha, decide_eq_true_eq]
      constructor
      · rintro (⟨z, z1 | ⟨z1, z2⟩⟩ | z)
        · exact ⟨z, Or.inl z1⟩
        · exact ⟨z, Or.inr ⟨by omega, z2⟩⟩
        · subst z
          exact ⟨hi, Or.inr ⟨by omega, by cases q : il_rb A S t v (p + 1) a <;> simp_all⟩⟩
      · rintro ⟨z, z1 | ⟨z1, z2⟩⟩
        · exact Or.inl ⟨z, Or.inl z1⟩
        · by_cases q : a = i
          · exact Or.inr q
          · exact Or.inl ⟨z, Or.inr ⟨by omega, z2⟩⟩
theorem wv_bb {post : Int32 → Prop} {A U S L : Nat → Int32} {t v : Nat} (ht : t < 12) (h : ∀ x, il_Be A S t v 12 x → post x) : wpX_blocksBefore post (A, U, S, L) (nI t) (il_bw S v 12) := by
  unfold wpX_blocksBefore
  dsimp only
  refine nm_e ?_
  refine loop_0 (fun n p (s : Int32 × Int32) => wX_blocksBefore_10 post (il_bw S v 12) A U S L n s.1 s.2 (nI p)) (fun p s => il_Be A S t v p s.1 ∧ il_Op A S t v p s.2) 12 (0, (1 : Int32) <<< (nI t &&& 31)) ⟨?_, ?_⟩ ?_ ?_
  · intro a ha
    show bt 0 a = true ↔ _
    rw [b_0]
    constructor
    · intro z; cases z
    · rintro ⟨_, z⟩; cases z
  · intro c hc
    show bt ((1 : Int32) <<< (nI t &&& 31)) c = true ↔ _
    rw [ib_shl (by omega) hc, decide_eq_true_eq]
    constructor
    · intro z
      exact ⟨by omega, Or.inl z⟩
    · rintro ⟨_, z | ⟨_, z⟩⟩
      · exact z
      · cases z
  · intro n s hI
    exact br_t ib_e12 (h s.1 hI.1)
  · intro n i s hi hI ih
    refine br_f (ib_12 hi) (wv_20 hI.2 hI.1 (fun x hx => ih (x, s.2 ||| (x &&& (il_bw S v 12 ^^^ (-1)))) ⟨hx, ?_⟩))
    intro c hc
    show bt (s.2 ||| (x &&& (il_bw S v 12 ^^^ (-1)))) c = true ↔ _
    rw [b_or, b_and, ib_not _ hc, Bool.or_eq_true, Bool.and_eq_true, hx c hc, hI.2 c hc, Bool.not_eq_true']
    constructor
    · rintro (⟨z, z1 | ⟨z1, z2⟩⟩ | ⟨⟨z, z1⟩, z2⟩)
      · exact ⟨z, Or.inl z1⟩
      · exact ⟨z, Or.inr ⟨z1, il_rb_s i c z z2⟩⟩
      · refine ⟨z, Or.inr ⟨?_, z1⟩⟩
        apply ib_tf
        intro q
        rw [(il_bw_b hc).mpr ⟨z, q⟩] at z2
        cases z2
    · rintro ⟨z, z1 | ⟨z1, z2⟩⟩
      · exact Or.inl ⟨z, Or.inl z1⟩
      · refine Or.inr ⟨⟨z, z2⟩, ?_⟩
        apply ib_tf
        intro q
        rw [((il_bw_b hc).mp q).2] at z1
        cases z1
def il_Sd (A S : Nat → Int32) (t v a : Nat) (x : Int32) : Prop := ∀ c, c < 12 → bt x c = true → il_G A S t v 12 c → il_rb A S t v 12 a = true
theorem wv_f20 {post : Int32 → Prop} {J : Int32 → Int32 → Prop} {A U S M : Nat → Int32} {t v p a : Nat} {s0 : Int32} (hv : v < 20) (h0 : il_Sd A S t v a s0) (h : ∀ x, (∀ c, bt s0 c = true → bt x c = true) → (∀ c, c < 12 → bt s0 c = true → bt (S c) v = false → ∀ d, bt (A c) d = true → bt x d = true) → il_Sd A S t v a x → J x (nI (p + 1))) : ∃ n, wY_far_20 post J (nI v) (nI p) A U S M n s0 0 := by
  refine loop_0 (fun n i x => wY_far_20 post J (nI v) (nI p) A U S M n x (nI i)) (fun i x => (∀ c, bt s0 c = true → bt x c = true) ∧ (∀ c, c < i → bt s0 c = true → bt (S c) v = false → ∀ d, bt (A c) d = true → bt x d = true) ∧ il_Sd A S t v a x) 12 s0 ⟨fun c z => z, fun c hc => by omega, h0⟩ ?_ ?_
  · intro n x hI
    exact br_t ib_e12 (nm_r (nI_1 p) (h x hI.1 hI.2.1 hI.2.2))
  · intro n i x hi hI ih
    obtain ⟨k1, k2, k3⟩ := hI
    refine br_f (ib_12 hi) (wv_hY (by omega) (fun e => br_t rfl (nm_r (nI_1 i) (ih _ ⟨k1, fun c hc z => ?_, k3⟩))) (fun e => br_f (by decide) ⟨ib_in hi, ?_⟩))
    · by_cases q : c = i
      · subst q
        rw [k1 c z] at e
        cases e
      · exact k2 c (by omega) z
    · rw [ib_cl hi]
      refine wv_hY (by omega) (fun e2 => br_t rfl ⟨ib_in hi, nm_e (nm_r (nI_1 i) (ih _ ⟨fun c z => ?_, fun c hc z z2 d z3 => ?_, fun c hc z hG => ?_⟩))⟩) (fun e2 => br_f (by decide) (nm_r (nI_1 i) (ih _ ⟨k1, fun c hc z z2 => ?_, k3⟩)))
      · rw [b_or, k1 c z]
        rfl
      · rw [b_or, Bool.or_eq_true]
        by_cases q : c = i
        · subst q
          exact Or.inr z3
        · exact Or.inl (k2 c (by omega) z z2 d z3)
      · rw [b_or, Bool.or_eq_true] at z
        rcases z with z | z
        · exact k3 c hc z hG
        · exact k3 i hi e (Or.inr ⟨e2, il_rb_13 hi (il_ro_b.mpr ⟨c, hc, z, hG⟩)⟩)
      · by_cases q : c = i
        · subst q
          rw [z2] at e2
          cases e2
        · exact k2 c (by omega) z z2
theorem wv_far {post : Int32 → Prop} {A U S M : Nat → Int32} {t v a : Nat} (ha : a < 12) (hv : v < 20) (ht : t < 12) (h : ∀ x, bt x t = il_rb A S t v 12 a → post x) : wpY_far post (A, U, S, M) (nI a) (nI v) := by
  unfold wpY_far
  dsimp only
  rw [ib_cl ha]
  refine ⟨ib_in ha, nm_e ?_⟩
  refine loop_0 (fun n p x => wY_far_10 post (nI v) A U S M n x (nI p)) (fun p x => il_Sd A S t v a x ∧ (il_rb A S t v 12 a = true → ∃ c, c < 12 ∧ bt x c = true ∧ il_G A S t v (11 - p) c)) 12 (A a) ⟨fun c hc z hG => il_rb_13 ha (il_ro_b.mpr ⟨c, hc, z, hG⟩), fun z => il_ro_b.mp z⟩ ?_ ?_
  · intro n x hI
    refine br_t ib_e12 (h x (Bool.eq_iff_iff.mpr ⟨fun z => hI.1 t ht z (Or.inl rfl), fun z => ?_⟩))
    obtain ⟨c, hc, z1, z2 | ⟨_, z2⟩⟩ := hI.2 z
    · subst z2
      exact z1
    · cases z2
  · intro n i x hi hI ih
    refine br_f (ib_12 hi) (wv_f20 hv hI.1 (fun y k1 k2 k3 => ih y ⟨k3, fun z => ?_⟩))
    obtain ⟨c, hc, z1, z2 | ⟨z2, z3⟩⟩ := hI.2 z
    · exact ⟨c, hc, k1 c z1, Or.inl z2⟩
    · by_cases q : i < 11
      · rw [show 11 - i = (11 - (i + 1)) + 1 by omega] at z3
        obtain ⟨d, hd, w1, w2⟩ := il_ro_b.mp z3
        exact ⟨d, hd, k2 c hc z1 z2 d w1, w2⟩
      · rw [show 11 - i = 0 by omega] at z3
        cases z3
/-- what reaching answers -/
def il_re (A S : Nat → Int32) (t v : Nat) : Nat → Int32 := il_og (fun a => bt (S a) v && il_rb A S t v 12 a) (fun a => (1 : Int32) <<< (nI a &&& 31))
theorem il_re_f {A S : Nat → Int32} {t v i : Nat} (h : (bt (S i) v && il_rb A S t v 12 i) = false) : il_re A S t v (i + 1) = il_re A S t v i := il_og_f (p := fun a => bt (S a) v && il_rb A S t v 12 a) h
theorem il_re_t {A S : Nat → Int32} {t v i : Nat} (h : (bt (S i) v && il_rb A S t v 12 i) = true) : il_re A S t v (i + 1) = il_re A S t v i ||| ((1 : Int32) <<< (nI i &&& 31)) := il_og_t (p := fun a => bt (S a) v && il_rb A S t v 12 a) h
theorem il_re_x {A S : Nat → Int32} {t v : Nat} {x : Int32} (h : il_Be A S t v 12 x) : il_bw S v 12 &&& x = il_re A S t v 12 := by
  apply b_ext
  intro i hi
  apply Bool.eq_iff_iff.mpr
  unfold il_re
  rw [b_and, Bool.and_eq_true, il_bw_b hi, h i hi, il_og_b]
  constructor
  · rintro ⟨⟨z, z1⟩, _, z2⟩
    exact ⟨i, z, by rw [z1, z2]; rfl, by rw [ib_shl (by omega) hi, decide_eq_true_eq]⟩
  · rintro ⟨c, hc, h1, h2⟩
    rw [ib_shl (by omega) hi, decide_eq_true_eq] at h2
    subst h2
    rw [Bool.and_eq_true] at h1
    exact ⟨⟨hc, h1.1⟩, hc, h1.2⟩
theorem wv_r23 {post : Int32 → Prop} {A U S M : Nat → Int32} {t v : Nat} (ht : t < 12) (hv : v < 20) (h : post (il_re A S t v 12)) : ∃ n, wY_reaching_23 post (nI t) (nI v) A U S M n 0 0 := by
  refine ib_lo (fun n i s => wY_reaching_23 post (nI t) (nI v) A U S M n s (nI i)) (il_re A S t v) 12 ?_ ?_
  · intro n
    exact br_t ib_e12 h
  · intro n i hi hn
    refine br_f (ib_12 hi) (wv_far hi hv ht (fun x hx => ⟨ib_in hi, ?_⟩))
    rw [ib_cl hi]
    refine wv_hY (by omega) (fun e => br_t rfl (nm_r (nI_1 i) ?_)) (fun e => br_f (by decide) (wv_hY (by omega) (fun e2 => br_t rfl (nm_r (nI_1 i) ?_)) (fun e2 => br_f (by decide) (nm_r ?_ (nm_r (nI_1 i) hn)))))
    · rw [il_re_f (by rw [e]; rfl)] at hn
      exact hn
    · rw [il_re_f (by rw [e, ← hx, e2]; rfl)] at hn
      exact hn
    · rw [il_re_t (by rw [e, ← hx, e2]; rfl)]
