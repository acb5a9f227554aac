/-! pure pictures: or over a set, counts, sums, levels of the liveness equations -/
def il_og (p : Nat → Bool) (f : Nat → Int32) : Nat → Int32
  | 0 => 0
  | n + 1 => if p n = true then il_og p f n ||| f n else il_og p f n
theorem il_og_t {p : Nat → Bool} {f : Nat → Int32} {n : Nat} (h : p n = true) : il_og p f (n + 1) = il_og p f n ||| f n := if_pos h
theorem il_og_f {p : Nat → Bool} {f : Nat → Int32} {n : Nat} (h : p n = false) : il_og p f (n + 1) = il_og p f n := if_neg (by rw [h]; decide)
theorem il_og_b {p : Nat → Bool} {f : Nat → Int32} {i : Nat} : ∀ n, bt (il_og p f n) i = true ↔ ∃ c, c < n ∧ p c = true ∧ bt (f c) i = true := by
  intro n
  induction n with
  | zero =>
    show bt 0 i = true ↔ _
    rw [b_0]
    constructor
    · intro h; cases h
    · rintro ⟨c, hc, _⟩; omega
  | succ n ih =>
    cases e : p n
    · rw [il_og_f e, ih]
      constructor
      · rintro ⟨c, hc, h⟩
        exact ⟨c, by omega, h⟩
      · rintro ⟨c, hc, h1, h2⟩
        by_cases z : c = n
        · subst z
          rw [e] at h1
          cases h1
        · exact ⟨c, by omega, h1, h2⟩
    · rw [il_og_t e, b_or, Bool.or_eq_true, ih]
      constructor
      · rintro (⟨c, hc, h⟩ | h)
        · exact ⟨c, by omega, h⟩
        · exact ⟨n, by omega, e, h⟩
      · rintro ⟨c, hc, h1, h2⟩
        by_cases z : c = n
        · subst z
          exact Or.inr h2
        · exact Or.inl ⟨c, by omega, h1, h2⟩
theorem il_og_c {p q : Nat → Bool} {f g : Nat → Int32} : ∀ n, (∀ c, c < n → p c = q c) → (∀ c, c < n → f c = g c) → il_og p f n = il_og q g n := by
  intro n
  induction n with
  | zero => intro _ _; rfl
  | succ n ih =>
    intro h1 h2
    have e := ih (fun c hc => h1 c (by omega)) (fun c hc => h2 c (by omega))
    show (if p n = true then il_og p f n ||| f n else il_og p f n) = (if q n = true then il_og q g n ||| g n else il_og q g n)
    rw [e, h1 n (by omega), h2 n (by omega)]
def il_cn (p : Nat → Bool) : Nat → Nat
  | 0 => 0
  | n + 1 => il_cn p n + (p n).toNat
def il_sm (f : Nat → Nat) : Nat → Nat
  | 0 => 0
  | n + 1 => il_sm f n + f n
def il_mx (f : Nat → Int32) : Nat → Int32
  | 0 => 0
  | n + 1 => if f n ≤ il_mx f n then il_mx f n else f n
theorem il_sm_c {f g : Nat → Nat} : ∀ n, (∀ c, c < n → f c = g c) → il_sm f n = il_sm g n := by
  intro n
  induction n with
  | zero => intro _; rfl
  | succ n ih =>
    intro h
    show il_sm f n + f n = il_sm g n + g n
    rw [ih (fun c hc => h c (by omega)), h n (by omega)]
theorem il_mx_c {f g : Nat → Int32} : ∀ n, (∀ c, c < n → f c = g c) → il_mx f n = il_mx g n := by
  intro n
  induction n with
  | zero => intro _; rfl
  | succ n ih =>
    intro h
    show (if f n ≤ il_mx f n then il_mx f n else f n) = (if g n ≤ il_mx g n then il_mx g n else g n)
    rw [ih (fun c hc => h c (by omega)), h n (by omega)]
theorem il_cn_n (p : Nat → Bool) : ∀ n, il_cn p n ≤ n := by
  intro n
  induction n with
  | zero => exact Nat.le_refl 0
  | succ n ih =>
    show il_cn p n + (p n).toNat ≤ n + 1
    have := Bool.toNat_le (p n)
    omega
theorem il_cn_le {p q : Nat → Bool} : ∀ n, (∀ b, b < n → p b = true → q b = true) → il_cn p n ≤ il_cn q n ∧ (il_cn q n ≤ il_cn p n → ∀ b, b < n → q b = p b) := by
  intro n
  induction n with
  | zero => exact fun _ => ⟨Nat.le_refl 0, fun _ b hb => by omega⟩
  | succ n ih =>
    intro h
    obtain ⟨h1, h2⟩ := ih (fun b hb => h b (by omega))
    have h3 : (p n).toNat ≤ (q n).toNat := by
      have := h n (by omega)
      cases e1 : p n <;> cases e2 : q n <;> simp_all
    refine ⟨Nat.add_le_add h1 h3, fun z b hb => ?_⟩
    have z' : il_cn q n + (q n).toNat ≤ il_cn p n + (p n).toNat := z
    by_cases e : b = n
    · subst e
      have : (q b).toNat ≤ (p b).toNat := by omega
      cases e1 : p b <;> cases e2 : q b <;> simp_all
    · exact h2 (by omega) b (by omega)
theorem il_pg (D : Nat → Nat → Bool) (N : Nat) (hm : ∀ n b, b < N → D n b = true → D (n + 1) b = true) (hs : ∀ n, (∀ b, b < N → D (n + 1) b = D n b) → ∀ b, b < N → D (n + 2) b = D (n + 1) b) : ∀ b, b < N → D (N + 1) b = D N b := by
  have key : ∀ n, (∀ b, b < N → D (n + 1) b = D n b) ∨ n + 1 ≤ il_cn (D (n + 1)) N := by
    intro n
    induction n with
    | zero =>
      have h := il_cn_le (p := D 0) (q := D 1) N (hm 0)
      by_cases z : il_cn (D 1) N ≤ il_cn (D 0) N
      · exact Or.inl (h.2 z)
      · exact Or.inr (show 1 ≤ il_cn (D 1) N by omega)
    | succ n ih =>
      rcases ih with h | h
      · exact Or.inl (hs n h)
      · have h' := il_cn_le (p := D (n + 1)) (q := D (n + 2)) N (hm (n + 1))
        by_cases z : il_cn (D (n + 2)) N ≤ il_cn (D (n + 1)) N
        · exact Or.inl (h'.2 z)
        · exact Or.inr (show n + 2 ≤ il_cn (D (n + 2)) N by omega)
  rcases key N with h | h
  · exact h
  · have := il_cn_n (D (N + 1)) N
    omega
/-- the liveness equation's right side at block b, from L -/
def il_fo (A U S L : Nat → Int32) (b : Nat) : Int32 := U b ||| (il_og (bt (A b)) L 12 &&& (S b ^^^ (-1)))
def il_fl (A U S : Nat → Int32) : Nat → Nat → Int32
  | 0 => fun _ => 0
  | n + 1 => fun b => il_fo A U S (il_fl A U S n) b
theorem il_fo_b {A U S L : Nat → Int32} {b i : Nat} (hi : i < 32) : bt (il_fo A U S L b) i = true ↔ bt (U b) i = true ∨ ((∃ c, c < 12 ∧ bt (A b) c = true ∧ bt (L c) i = true) ∧ bt (S b) i = false) := by
  unfold il_fo
  rw [b_or, b_and, ib_not _ hi, Bool.or_eq_true, Bool.and_eq_true, il_og_b, Bool.not_eq_true']
theorem il_fo_m {A U S L M : Nat → Int32} {b i : Nat} (hi : i < 32) (h : ∀ c, c < 12 → bt (L c) i = true → bt (M c) i = true) (hb : bt (il_fo A U S L b) i = true) : bt (il_fo A U S M b) i = true := by
  rw [il_fo_b hi] at hb ⊢
  rcases hb with hb | ⟨⟨c, hc, h1, h2⟩, h3⟩
  · exact Or.inl hb
  · exact Or.inr ⟨⟨c, hc, h1, h c hc h2⟩, h3⟩
theorem il_fl_s {A U S : Nat → Int32} {i : Nat} (hi : i < 32) : ∀ n b, b < 12 → bt (il_fl A U S n b) i = true → bt (il_fl A U S (n + 1) b) i = true := by
  intro n
  induction n with
  | zero =>
    intro b hb h
    have h' : bt 0 i = true := h
    rw [b_0] at h'
    cases h'
  | succ n ih => exact fun b hb h => il_fo_m (L := il_fl A U S n) (M := il_fl A U S (n + 1)) hi ih h
theorem il_fl_d {A U S : Nat → Int32} {i : Nat} (hi : i < 32) (d : Nat) : ∀ n b, b < 12 → bt (il_fl A U S n b) i = true → bt (il_fl A U S (n + d) b) i = true := by
  induction d with
  | zero => exact fun n b hb h => h
  | succ d ih => exact fun n b hb h => il_fl_s hi (n + d) b hb (ih n b hb h)
theorem il_fl_13 {A U S : Nat → Int32} {i : Nat} (hi : i < 32) {b : Nat} (hb : b < 12) (h : bt (il_fo A U S (il_fl A U S 12) b) i = true) : bt (il_fl A U S 12 b) i = true := by
  have := il_pg (fun n b => bt (il_fl A U S n b) i) 12 (il_fl_s hi) (fun n hn b hb => by
    show bt (il_fo A U S (il_fl A U S (n + 1)) b) i = bt (il_fo A U S (il_fl A U S n) b) i
    apply Bool.eq_iff_iff.mpr
    exact ⟨il_fo_m hi (fun c hc h => by rw [← hn c hc]; exact h), il_fo_m hi (fun c hc h => (hn c hc).trans h)⟩) b hb
  exact this.symm.trans h
/-- a pass p of either side's round, the blocks below j done -/
def il_In (A U S : Nat → Int32) (p j : Nat) (L : Nat → Int32) : Prop :=
  (∀ b, b < 12 → ∀ i, i < 32 → bt (il_fl A U S p b) i = true → bt (L b) i = true) ∧ (∀ b, b < j → ∀ i, i < 32 → bt (il_fl A U S (p + 1) b) i = true → bt (L b) i = true) ∧ (∀ b, b < 12 → ∀ i, i < 32 → bt (L b) i = true → bt (il_fl A U S 12 b) i = true)
theorem il_step {A U S L : Nat → Int32} {p j : Nat} {x : Int32} (hI : il_In A U S p j L) (hj : j < 12) (h1 : ∀ i, i < 32 → bt (il_fo A U S L j) i = true → bt x i = true) (h2 : ∀ i, i < 32 → bt x i = true → bt (il_fo A U S L j) i = true ∨ bt (L j) i = true) : il_In A U S p (j + 1) (upd L j x) := by
  obtain ⟨c1, c2, c3⟩ := hI
  have k : ∀ i, i < 32 → bt (il_fl A U S (p + 1) j) i = true → bt x i = true := fun i hi h =>
    h1 i hi (il_fo_m (L := il_fl A U S p) hi (fun c hc h => c1 c hc i hi h) h)
  refine ⟨fun b hb i hi h => ?_, fun b hb i hi h => ?_, fun b hb i hi h => ?_⟩
  · by_cases e : b = j
    · subst e
      rw [pk_us]
      exact k i hi (il_fl_s hi p b hb h)
    · rw [pk_un e]
      exact c1 b hb i hi h
  · by_cases e : b = j
    · subst e
      rw [pk_us]
      exact k i hi h
    · rw [pk_un e]
      exact c2 b (by omega) i hi h
  · by_cases e : b = j
    · subst e
      rw [pk_us] at h
      rcases h2 i hi h with h | h
      · exact il_fl_13 hi hb (il_fo_m hi (fun c hc h => c3 c hc i hi h) h)
      · exact c3 b hb i hi h
    · rw [pk_un e] at h
      exact c3 b hb i hi h
theorem il_next {A U S L : Nat → Int32} {p : Nat} (hI : il_In A U S p 12 L) : il_In A U S (p + 1) 0 L :=
  ⟨hI.2.1, fun b hb => by omega, hI.2.2⟩
theorem il_end {A U S L : Nat → Int32} {j : Nat} (hI : il_In A U S 12 j L) : ∀ b, b < 12 → L b = il_fl A U S 12 b := fun b hb =>
  b_ext (fun i hi => Bool.eq_iff_iff.mpr ⟨hI.2.2 b hb i hi, hI.1 b hb i hi⟩)
theorem il_beg0 {A U S L : Nat → Int32} (h : ∀ b, b < 12 → L b = 0) : il_In A U S 0 0 L := by
  refine ⟨fun b hb i hi z => ?_, fun b hb => by omega, fun b hb i hi z => ?_⟩
  · have z' : bt 0 i = true := z
    rw [b_0] at z'
    cases z'
  · rw [h b hb, b_0] at z
    cases z
theorem il_begU {A U S L : Nat → Int32} (h : ∀ b, b < 12 → L b = U b) : il_In A U S 0 0 L := by
  refine ⟨fun b hb i hi z => ?_, fun b hb => by omega, fun b hb i hi z => ?_⟩
  · have z' : bt 0 i = true := z
    rw [b_0] at z'
    cases z'
  · rw [h b hb] at z
    exact il_fl_d hi 11 1 b hb ((il_fo_b hi).mpr (Or.inl z))
theorem il_fl_0 {A U S : Nat → Int32} (hU : ∀ b, U b = 0) : ∀ n b, il_fl A U S n b = 0 := by
  intro n
  induction n with
  | zero => intro b; rfl
  | succ n ih =>
    intro b
    apply b_ext
    intro i hi
    rw [b_0]
    apply ib_tf
    intro h
    rcases (il_fo_b (A := A) (U := U) (S := S) (b := b) (L := il_fl A U S n) hi).mp h with h | ⟨⟨c, hc, h1, h2⟩, h3⟩
    · rw [hU, b_0] at h
      cases h
    · rw [ih c, b_0] at h2
      cases h2
theorem il_fl_hi {A U S : Nat → Int32} {i : Nat} (hi : i < 32) (hU : ∀ b, b < 12 → bt (U b) i = false) : ∀ n b, b < 12 → bt (il_fl A U S n b) i = false := by
  intro n
  induction n with
  | zero => intro b hb; exact b_0 i
  | succ n ih =>
    intro b hb
    apply ib_tf
    intro h
    rcases (il_fo_b (L := il_fl A U S n) hi).mp h with h | ⟨⟨c, hc, h1, h2⟩, h3⟩
    · rw [hU b hb] at h
      cases h
    · rw [ih c hc] at h2
      cases h2
