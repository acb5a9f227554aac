section
/-! bits of an Int32 (rows of kit/rows to begin with, then own ones) -/
def bt (x : Int32) (i : Nat) : Bool := x.toBitVec.getLsbD i
theorem b_ext {x y : Int32} (h : ∀ i, i < 32 → bt x i = bt y i) : x = y := Int32.toBitVec_inj.mp (BitVec.eq_of_getLsbD_eq (fun i hi => h i hi))
theorem b_or (x y : Int32) (i : Nat) : bt (x ||| y) i = (bt x i || bt y i) := by unfold bt; rw [Int32.toBitVec_or, BitVec.getLsbD_or]
theorem b_and (x y : Int32) (i : Nat) : bt (x &&& y) i = (bt x i && bt y i) := by unfold bt; rw [Int32.toBitVec_and, BitVec.getLsbD_and]
theorem b_xor (x y : Int32) (i : Nat) : bt (x ^^^ y) i = (bt x i ^^ bt y i) := by unfold bt; rw [Int32.toBitVec_xor, BitVec.getLsbD_xor]
theorem b_big {x : Int32} {i : Nat} (h : 32 ≤ i) : bt x i = false := BitVec.getLsbD_of_ge _ _ h
theorem b_m1 : ∀ i, i < 32 → bt (-1) i = true := by decide +kernel
theorem b_0 (i : Nat) : bt 0 i = false := BitVec.getLsbD_zero
theorem s_l : ∀ n, n < 32 → ((nI n &&& 31).toBitVec.smod 32).toNat = n := by decide +kernel
theorem b_shl (n : Nat) (hn : n < 32) (x : Int32) {i : Nat} (hi : i < 32) : bt (x <<< (nI n &&& 31)) i = (decide (n ≤ i) && bt x (i - n)) := by
  unfold bt
  rw [Int32.toBitVec_shiftLeft]
  show (x.toBitVec <<< ((nI n &&& 31).toBitVec.smod 32).toNat).getLsbD i = _
  rw [s_l n hn, BitVec.getLsbD_shiftLeft]
  rcases Nat.lt_or_ge i n with h | h
  · simp [h, Nat.not_le.mpr h]
  · simp [hi, h, Nat.not_lt.mpr h]
theorem b_sshr (n : Nat) (hn : n < 32) (x : Int32) {i : Nat} (hi : i < 32) : bt (x >>> (nI n &&& 31)) i = if n + i < 32 then bt x (n + i) else bt x 31 := by
  unfold bt
  rw [Int32.toBitVec_shiftRight]
  show (x.toBitVec.sshiftRight ((nI n &&& 31).toBitVec.smod 32).toNat).getLsbD i = _
  rw [s_l n hn, BitVec.getLsbD_sshiftRight, BitVec.msb_eq_getLsbD_last]
  simp [hi]
theorem pk_us {f : Nat → Int32} {k : Nat} {x : Int32} : upd f k x k = x := if_pos rfl
theorem pk_un {f : Nat → Int32} {k j : Nat} {x : Int32} (h : j ≠ k) : upd f k x j = f j := if_neg h
theorem pk_div {a d : Nat} (ha : a < 2 ^ 31) (h0 : 0 < d) (hd : d < 2 ^ 31) : nI a / nI d = nI (a / d) := by
  apply Int32.toInt_inj.mp
  rw [lg_idiv_nonneg (by rw [nI_toInt ha]; omega) (by rw [nI_toInt hd]; omega), nI_toInt ha, nI_toInt hd, nI_toInt (Nat.lt_of_le_of_lt (Nat.div_le_self a d) ha)]
  first | rfl | exact (Int.natCast_ediv _ _).symm
theorem pk_ix (x : Int32) {n : Nat} (hn : n < 2 ^ 31) : x < 0 ∨ nI n ≤ x ∨ ∃ j : Nat, j < n ∧ x = nI j := by
  by_cases h : x < 0
  · exact Or.inl h
  · obtain ⟨j, hj, rfl⟩ := nI_of h
    by_cases h2 : j < n
    · exact Or.inr (Or.inr ⟨j, h2, rfl⟩)
    · exact Or.inr (Or.inl (nI_le (by omega) hj))
theorem ib_1 : ∀ j, j < 32 → bt 1 j = decide (j = 0) := by decide +kernel
theorem ib_not (x : Int32) {i : Nat} (hi : i < 32) : bt (x ^^^ (-1)) i = !bt x i := by
  rw [b_xor, b_m1 i hi]
  cases bt x i <;> rfl
theorem ib_bit (x : Int32) {i : Nat} (hi : i < 32) : (x >>> (nI i &&& 31)) &&& 1 = if bt x i = true then 1 else 0 := by
  apply b_ext
  intro j hj
  rw [b_and, b_sshr i hi x hj, ib_1 j hj]
  by_cases h : j = 0
  · subst h
    rw [if_pos (by omega : i + 0 < 32), Nat.add_zero]
    cases e : bt x i
    · rw [if_neg (by decide), b_0]; rfl
    · rw [if_pos rfl, ib_1 0 hj]; rfl
  · rw [decide_eq_false h, Bool.and_false]
    cases e : bt x i
    · rw [if_neg (by decide), b_0]
    · rw [if_pos rfl, ib_1 j hj, decide_eq_false h]
theorem ib_shl {m i : Nat} (hm : m < 32) (hi : i < 32) : bt ((1 : Int32) <<< (nI m &&& 31)) i = decide (i = m) := by
  rw [b_shl m hm 1 hi, ib_1 (i - m) (by omega)]
  by_cases h : i = m
  · subst h
    simp
  · by_cases h2 : m ≤ i
    · rw [decide_eq_true h2, decide_eq_false h, decide_eq_false (by omega)]; rfl
    · rw [decide_eq_false h2, decide_eq_false h]; rfl
theorem ib_nI {j n : Nat} (hj : j < 2 ^ n) {i : Nat} (hi : n ≤ i) : bt (nI j) i = false := by
  show (BitVec.ofNat 32 j).getLsbD i = false
  rw [BitVec.getLsbD_ofNat, Nat.testBit_lt_two_pow (Nat.lt_of_lt_of_le hj (Nat.pow_le_pow_right (by decide) hi)), Bool.and_false]
theorem ib_eq0 {x : Int32} : x = 0 ↔ ∀ i, i < 32 → bt x i = false := by
  constructor
  · intro h i _
    rw [h, b_0]
  · intro h
    apply b_ext
    intro i hi
    rw [h i hi, b_0]
theorem ib_tf {x : Bool} (h : ¬ x = true) : x = false := by cases x <;> simp_all
theorem ib_12 {i : Nat} (h : i < 12) : ¬ (12 : Int32) ≤ nI i := nI_ge (b := 12) h (by decide)
theorem ib_20 {i : Nat} (h : i < 20) : ¬ (20 : Int32) ≤ nI i := nI_ge (b := 20) h (by decide)
theorem ib_e12 : (12 : Int32) ≤ nI 12 := nI_le (a := 12) (Nat.le_refl 12) (by decide)
theorem ib_e20 : (20 : Int32) ≤ nI 20 := nI_le (a := 20) (Nat.le_refl 20) (by decide)
theorem ib_in {i : Nat} (h : i < 12) : vp_in (nI i) 12 := vp_in_nI h (by decide)
theorem ib_cl {i : Nat} (h : i < 12) : (nI i).toNatClampNeg = i := nI_clamp (by omega)
theorem ib_lo {σ : Type} (W : Nat → Nat → σ → Prop) (f : Nat → σ) (e : Nat) (hx : ∀ n, W (n + 1) e (f e)) (hs : ∀ n i, i < e → W n (i + 1) (f (i + 1)) → W (n + 1) i (f i)) : ∃ n, W n 0 (f 0) :=
  loop_0 W (fun i s => s = f i) e (f 0) rfl (fun n s h => h ▸ hx n) (fun n i s hi h ih => h ▸ hs n i hi (ih _ rfl))
end
section
/-! pure pictures: or over a set, counts, sums, levels of the liveness equations -/
def il_og (p : Nat → Bool) (f : Nat → Int32) : Nat → Int32
  | 0 => 0
  | n + 1 => if p n = true then il_og p f n ||| f n else il_og p f n
theorem il_og_t {p : Nat → Bool} {f : Nat → Int32} {n : Nat} (h : p n = true) : il_og p f (n + 1) = il_og p f n ||| f n := if_pos h
theorem il_og_f {p : Nat → Bool} {f : Nat → Int32} {n : Nat} (h : p n = false) : il_og p f (n + 1) = il_og p f n := if_neg (by rw [h]; decide)
theorem il_og_b {p : Nat → Bool} {f : Nat → Int32} {i : Nat} : ∀ n, bt (il_og p f n) i = true ↔ ∃ c, c < n ∧ p c = true ∧ bt (f c) i = true := by
  intro n
  induction n with
  | zero =>
    show bt 0 i = true ↔ _
    rw [b_0]
    constructor
    · intro h; cases h
    · rintro ⟨c, hc, _⟩; omega
  | succ n ih =>
    cases e : p n
    · rw [il_og_f e, ih]
      constructor
      · rintro ⟨c, hc, h⟩
        exact ⟨c, by omega, h⟩
      · rintro ⟨c, hc, h1, h2⟩
        by_cases z : c = n
        · subst z
          rw [e] at h1
          cases h1
        · exact ⟨c, by omega, h1, h2⟩
    · rw [il_og_t e, b_or, Bool.or_eq_true, ih]
      constructor
      · rintro (⟨c, hc, h⟩ | h)
        · exact ⟨c, by omega, h⟩
        · exact ⟨n, by omega, e, h⟩
      · rintro ⟨c, hc, h1, h2⟩
        by_cases z : c = n
        · subst z
          exact Or.inr h2
        · exact Or.inl ⟨c, by omega, h1, h2⟩
theorem il_og_c {p q : Nat → Bool} {f g : Nat → Int32} : ∀ n, (∀ c, c < n → p c = q c) → (∀ c, c < n → f c = g c) → il_og p f n = il_og q g n := by
  intro n
  induction n with
  | zero => intro _ _; rfl
  | succ n ih =>
    intro h1 h2
    have e := ih (fun c hc => h1 c (by omega)) (fun c hc => h2 c (by omega))
    show (if p n = true then il_og p f n ||| f n else il_og p f n) = (if q n = true then il_og q g n ||| g n else il_og q g n)
    rw [e, h1 n (by omega), h2 n (by omega)]
def il_cn (p : Nat → Bool) : Nat → Nat
  | 0 => 0
  | n + 1 => il_cn p n + (p n).toNat
def il_sm (f : Nat → Nat) : Nat → Nat
  | 0 => 0
  | n + 1 => il_sm f n + f n
def il_mx (f : Nat → Int32) : Nat → Int32
  | 0 => 0
  | n + 1 => if f n ≤ il_mx f n then il_mx f n else f n
theorem il_sm_c {f g : Nat → Nat} : ∀ n, (∀ c, c < n → f c = g c) → il_sm f n = il_sm g n := by
  intro n
  induction n with
  | zero => intro _; rfl
  | succ n ih =>
    intro h
    show il_sm f n + f n = il_sm g n + g n
    rw [ih (fun c hc => h c (by omega)), h n (by omega)]
theorem il_mx_c {f g : Nat → Int32} : ∀ n, (∀ c, c < n → f c = g c) → il_mx f n = il_mx g n := by
  intro n
  induction n with
  | zero => intro _; rfl
  | succ n ih =>
    intro h
    show (if f n ≤ il_mx f n then il_mx f n else f n) = (if g n ≤ il_mx g n then il_mx g n else g n)
    rw [ih (fun c hc => h c (by omega)), h n (by omega)]
theorem il_cn_n (p : Nat → Bool) : ∀ n, il_cn p n ≤ n := by
  intro n
  induction n with
  | zero => exact Nat.le_refl 0
  | succ n ih =>
    show il_cn p n + (p n).toNat ≤ n + 1
    have := Bool.toNat_le (p n)
    omega
theorem il_cn_le {p q : Nat → Bool} : ∀ n, (∀ b, b < n → p b = true → q b = true) → il_cn p n ≤ il_cn q n ∧ (il_cn q n ≤ il_cn p n → ∀ b, b < n → q b = p b) := by
  intro n
  induction n with
  | zero => exact fun _ => ⟨Nat.le_refl 0, fun _ b hb => by omega⟩
  | succ n ih =>
    intro h
    obtain ⟨h1, h2⟩ := ih (fun b hb => h b (by omega))
    have h3 : (p n).toNat ≤ (q n).toNat := by
      have := h n (by omega)
      cases e1 : p n <;> cases e2 : q n <;> simp_all
    refine ⟨Nat.add_le_add h1 h3, fun z b hb => ?_⟩
    have z' : il_cn q n + (q n).toNat ≤ il_cn p n + (p n).toNat := z
    by_cases e : b = n
    · subst e
      have : (q b).toNat ≤ (p b).toNat := by omega
      cases e1 : p b <;> cases e2 : q b <;> simp_all
    · exact h2 (by omega) b (by omega)
theorem il_pg (D : Nat → Nat → Bool) (N : Nat) (hm : ∀ n b, b < N → D n b = true → D (n + 1) b = true) (hs : ∀ n, (∀ b, b < N → D (n + 1) b = D n b) → ∀ b, b < N → D (n + 2) b = D (n + 1) b) : ∀ b, b < N → D (N + 1) b = D N b := by
  have key : ∀ n, (∀ b, b < N → D (n + 1) b = D n b) ∨ n + 1 ≤ il_cn (D (n + 1)) N := by
    intro n
    induction n with
    | zero =>
      have h := il_cn_le (p := D 0) (q := D 1) N (hm 0)
      by_cases z : il_cn (D 1) N ≤ il_cn (D 0) N
      · exact Or.inl (h.2 z)
      · exact Or.inr (show 1 ≤ il_cn (D 1) N by omega)
    | succ n ih =>
      rcases ih with h | h
      · exact Or.inl (hs n h)
      · have h' := il_cn_le (p := D (n + 1)) (q := D (n + 2)) N (hm (n + 1))
        by_cases z : il_cn (D (n + 2)) N ≤ il_cn (D (n + 1)) N
        · exact Or.inl (h'.2 z)
        · exact Or.inr (show n + 2 ≤ il_cn (D (n + 2)) N by omega)
  rcases key N with h | h
  · exact h
  · have := il_cn_n (D (N + 1)) N
    omega
/-- the liveness equation's right side at block b, from L -/
def il_fo (A U S L : Nat → Int32) (b : Nat) : Int32 := U b ||| (il_og (bt (A b)) L 12 &&& (S b ^^^ (-1)))
def il_fl (A U S : Nat → Int32) : Nat → Nat → Int32
  | 0 => fun _ => 0
  | n + 1 => fun b => il_fo A U S (il_fl A U S n) b
theorem il_fo_b {A U S L : Nat → Int32} {b i : Nat} (hi : i < 32) : bt (il_fo A U S L b) i = true ↔ bt (U b) i = true ∨ ((∃ c, c < 12 ∧ bt (A b) c = true ∧ bt (L c) i = true) ∧ bt (S b) i = false) := by
  unfold il_fo
  rw [b_or, b_and, ib_not _ hi, Bool.or_eq_true, Bool.and_eq_true, il_og_b, Bool.not_eq_true']
theorem il_fo_m {A U S L M : Nat → Int32} {b i : Nat} (hi : i < 32) (h : ∀ c, c < 12 → bt (L c) i = true → bt (M c) i = true) (hb : bt (il_fo A U S L b) i = true) : bt (il_fo A U S M b) i = true := by
  rw [il_fo_b hi] at hb ⊢
  rcases hb with hb | ⟨⟨c, hc, h1, h2⟩, h3⟩
  · exact Or.inl hb
  · exact Or.inr ⟨⟨c, hc, h1, h c hc h2⟩, h3⟩
theorem il_fl_s {A U S : Nat → Int32} {i : Nat} (hi : i < 32) : ∀ n b, b < 12 → bt (il_fl A U S n b) i = true → bt (il_fl A U S (n + 1) b) i = true := by
  intro n
  induction n with
  | zero =>
    intro b hb h
    have h' : bt 0 i = true := h
    rw [b_0] at h'
    cases h'
  | succ n ih => exact fun b hb h => il_fo_m (L := il_fl A U S n) (M := il_fl A U S (n + 1)) hi ih h
theorem il_fl_d {A U S : Nat → Int32} {i : Nat} (hi : i < 32) (d : Nat) : ∀ n b, b < 12 → bt (il_fl A U S n b) i = true → bt (il_fl A U S (n + d) b) i = true := by
  induction d with
  | zero => exact fun n b hb h => h
  | succ d ih => exact fun n b hb h => il_fl_s hi (n + d) b hb (ih n b hb h)
theorem il_fl_13 {A U S : Nat → Int32} {i : Nat} (hi : i < 32) {b : Nat} (hb : b < 12) (h : bt (il_fo A U S (il_fl A U S 12) b) i = true) : bt (il_fl A U S 12 b) i = true := by
  have := il_pg (fun n b => bt (il_fl A U S n b) i) 12 (il_fl_s hi) (fun n hn b hb => by
    show bt (il_fo A U S (il_fl A U S (n + 1)) b) i = bt (il_fo A U S (il_fl A U S n) b) i
    apply Bool.eq_iff_iff.mpr
    exact ⟨il_fo_m hi (fun c hc h => by rw [← hn c hc]; exact h), il_fo_m hi (fun c hc h => (hn c hc).trans h)⟩) b hb
  exact this.symm.trans h
/-- a pass p of either side's round, the blocks below j done -/
def il_In (A U S : Nat → Int32) (p j : Nat) (L : Nat → Int32) : Prop :=
  (∀ b, b < 12 → ∀ i, i < 32 → bt (il_fl A U S p b) i = true → bt (L b) i = true) ∧ (∀ b, b < j → ∀ i, i < 32 → bt (il_fl A U S (p + 1) b) i = true → bt (L b) i = true) ∧ (∀ b, b < 12 → ∀ i, i < 32 → bt (L b) i = true → bt (il_fl A U S 12 b) i = true)
theorem il_step {A U S L : Nat → Int32} {p j : Nat} {x : Int32} (hI : il_In A U S p j L) (hj : j < 12) (h1 : ∀ i, i < 32 → bt (il_fo A U S L j) i = true → bt x i = true) (h2 : ∀ i, i < 32 → bt x i = true → bt (il_fo A U S L j) i = true ∨ bt (L j) i = true) : il_In A U S p (j + 1) (upd L j x) := by
  obtain ⟨c1, c2, c3⟩ := hI
  have k : ∀ i, i < 32 → bt (il_fl A U S (p + 1) j) i = true → bt x i = true := fun i hi h =>
    h1 i hi (il_fo_m (L := il_fl A U S p) hi (fun c hc h => c1 c hc i hi h) h)
  refine ⟨fun b hb i hi h => ?_, fun b hb i hi h => ?_, fun b hb i hi h => ?_⟩
  · by_cases e : b = j
    · subst e
      rw [pk_us]
      exact k i hi (il_fl_s hi p b hb h)
    · rw [pk_un e]
      exact c1 b hb i hi h
  · by_cases e : b = j
    · subst e
      rw [pk_us]
      exact k i hi h
    · rw [pk_un e]
      exact c2 b (by omega) i hi h
  · by_cases e : b = j
    · subst e
      rw [pk_us] at h
      rcases h2 i hi h with h | h
      · exact il_fl_13 hi hb (il_fo_m hi (fun c hc h => c3 c hc i hi h) h)
      · exact c3 b hb i hi h
    · rw [pk_un e] at h
      exact c3 b hb i hi h
theorem il_next {A U S L : Nat → Int32} {p : Nat} (hI : il_In A U S p 12 L) : il_In A U S (p + 1) 0 L :=
  ⟨hI.2.1, fun b hb => by omega, hI.2.2⟩
theorem il_end {A U S L : Nat → Int32} {j : Nat} (hI : il_In A U S 12 j L) : ∀ b, b < 12 → L b = il_fl A U S 12 b := fun b hb =>
  b_ext (fun i hi => Bool.eq_iff_iff.mpr ⟨hI.2.2 b hb i hi, hI.1 b hb i hi⟩)
theorem il_beg0 {A U S L : Nat → Int32} (h : ∀ b, b < 12 → L b = 0) : il_In A U S 0 0 L := by
  refine ⟨fun b hb i hi z => ?_, fun b hb => by omega, fun b hb i hi z => ?_⟩
  · have z' : bt 0 i = true := z
    rw [b_0] at z'
    cases z'
  · rw [h b hb, b_0] at z
    cases z
theorem il_begU {A U S L : Nat → Int32} (h : ∀ b, b < 12 → L b = U b) : il_In A U S 0 0 L := by
  refine ⟨fun b hb i hi z => ?_, fun b hb => by omega, fun b hb i hi z => ?_⟩
  · have z' : bt 0 i = true := z
    rw [b_0] at z'
    cases z'
  · rw [h b hb] at z
    exact il_fl_d hi 11 1 b hb ((il_fo_b hi).mpr (Or.inl z))
theorem il_fl_0 {A U S : Nat → Int32} (hU : ∀ b, U b = 0) : ∀ n b, il_fl A U S n b = 0 := by
  intro n
  induction n with
  | zero => intro b; rfl
  | succ n ih =>
    intro b
    apply b_ext
    intro i hi
    rw [b_0]
    apply ib_tf
    intro h
    rcases (il_fo_b (A := A) (U := U) (S := S) (b := b) (L := il_fl A U S n) hi).mp h with h | ⟨⟨c, hc, h1, h2⟩, h3⟩
    · rw [hU, b_0] at h
      cases h
    · rw [ih c, b_0] at h2
      cases h2
theorem il_fl_hi {A U S : Nat → Int32} {i : Nat} (hi : i < 32) (hU : ∀ b, b < 12 → bt (U b) i = false) : ∀ n b, b < 12 → bt (il_fl A U S n b) i = false := by
  intro n
  induction n with
  | zero => intro b hb; exact b_0 i
  | succ n ih =>
    intro b hb
    apply ib_tf
    intro h
    rcases (il_fo_b (L := il_fl A U S n) hi).mp h with h | ⟨⟨c, hc, h1, h2⟩, h3⟩
    · rw [hU b hb] at h
      cases h
    · rw [ih c hc] at h2
      cases h2
end
section
/-! the walks of the small methods, each side against one pure picture -/
def il_B (x : Int32) : Prop := ∃ j : Nat, j < 12 ∧ x = nI j
def il_V (x : Int32) : Prop := ∃ j : Nat, j < 20 ∧ x = nI j
def il_W (x : Int32) : Prop := ¬ x < 0 ∧ ¬ 1048575 < x
theorem wv_bXt {post : Int32 → Prop} {a : Nat} (ha : a < 12) (h : post 1) : wpX_isBlock post (nI a) :=
  br_f (nI_pos (by omega)) (br_f (ib_12 ha) h)
theorem wv_bXf {post : Int32 → Prop} {x : Int32} (hx : ¬ il_B x) (h : post 0) : wpX_isBlock post x := by
  by_cases h0 : x < 0
  · exact br_t h0 h
  · obtain ⟨j, hj, rfl⟩ := nI_of h0
    have : ¬ j < 12 := fun z => hx ⟨j, z, rfl⟩
    exact br_f h0 (br_t (nI_le (a := 12) (by omega) hj) h)
theorem wv_vXt {post : Int32 → Prop} {a : Nat} (ha : a < 20) (h : post 1) : wpX_isVariable post (nI a) :=
  br_f (nI_pos (by omega)) (br_f (ib_20 ha) h)
theorem wv_vXf {post : Int32 → Prop} {x : Int32} (hx : ¬ il_V x) (h : post 0) : wpX_isVariable post x := by
  by_cases h0 : x < 0
  · exact br_t h0 h
  · obtain ⟨j, hj, rfl⟩ := nI_of h0
    have : ¬ j < 20 := fun z => hx ⟨j, z, rfl⟩
    exact br_f h0 (br_t (nI_le (a := 20) (by omega) hj) h)
theorem wv_wXt {post : Int32 → Prop} {x : Int32} (hx : il_W x) (h : post 1) : wpX_isVariableSet post x :=
  br_f hx.1 (br_f hx.2 h)
theorem wv_wXf {post : Int32 → Prop} {x : Int32} (hx : ¬ il_W x) (h : post 0) : wpX_isVariableSet post x := by
  by_cases h0 : x < 0
  · exact br_t h0 h
  · by_cases h1 : 1048575 < x
    · exact br_f h0 (br_t h1 h)
    · exact absurd ⟨h0, h1⟩ hx
theorem wv_bYt {post : Int32 → Prop} {u : SY} {a : Nat} (ha : a < 12) (h : post 1) : wpY_isBlock post u (nI a) := by
  obtain ⟨u1, u2, u3, u4⟩ := u
  exact br_f (nI_pos (by omega)) (br_f (nI_nlt (b := a) (a := 11) (by omega) (by omega)) h)
theorem wv_bYf {post : Int32 → Prop} {u : SY} {x : Int32} (hx : ¬ il_B x) (h : post 0) : wpY_isBlock post u x := by
  obtain ⟨u1, u2, u3, u4⟩ := u
  by_cases h0 : x < 0
  · exact br_t h0 h
  · obtain ⟨j, hj, rfl⟩ := nI_of h0
    have : ¬ j < 12 := fun z => hx ⟨j, z, rfl⟩
    exact br_f h0 (br_t (nI_lt (a := 11) (by omega) hj) h)
theorem wv_vYt {post : Int32 → Prop} {u : SY} {a : Nat} (ha : a < 20) (h : post 1) : wpY_isVariable post u (nI a) := by
  obtain ⟨u1, u2, u3, u4⟩ := u
  exact br_f (nI_pos (by omega)) (br_f (nI_nlt (b := a) (a := 19) (by omega) (by omega)) h)
theorem wv_vYf {post : Int32 → Prop} {u : SY} {x : Int32} (hx : ¬ il_V x) (h : post 0) : wpY_isVariable post u x := by
  obtain ⟨u1, u2, u3, u4⟩ := u
  by_cases h0 : x < 0
  · exact br_t h0 h
  · obtain ⟨j, hj, rfl⟩ := nI_of h0
    have : ¬ j < 20 := fun z => hx ⟨j, z, rfl⟩
    exact br_f h0 (br_t (nI_lt (a := 19) (by omega) hj) h)
theorem wv_cX {post : Int32 → Prop} {s : Int32} {m : Nat} (hm : m < 32) (h0 : bt s m = false → post 0) (h1 : bt s m = true → post 1) : wpX_contains post s (nI m) := by
  unfold wpX_contains
  rw [ib_bit s hm]
  cases e : bt s m
  · rw [if_neg (by decide)]
    exact br_t rfl (h0 e)
  · rw [if_pos rfl]
    exact br_f (by decide) (h1 e)
theorem wv_hY {post : Int32 → Prop} {u : SY} {s : Int32} {m : Nat} (hm : m < 32) (h0 : bt s m = false → post 0) (h1 : bt s m = true → post 1) : wpY_has post u s (nI m) := by
  obtain ⟨u1, u2, u3, u4⟩ := u
  unfold wpY_has
  dsimp only
  rw [ib_bit s hm]
  cases e : bt s m
  · rw [if_neg (by decide)]
    exact br_f (by decide) (h0 e)
  · rw [if_pos rfl]
    exact br_t rfl (h1 e)
theorem wv_eX {post : Int32 → Prop} {A U S L : Nat → Int32} {b : Nat} (hb : b < 12) (h : post (il_og (bt (A b)) L 12)) : wpX_liveAtEnd post (A, U, S, L) (nI b) := by
  refine ib_lo (fun n i s => wX_liveAtEnd_4 post (nI b) A U S L n s (nI i)) (il_og (bt (A b)) L) 12 ?_ ?_
  · intro n
    exact br_t ib_e12 h
  · intro n i hi hn
    refine br_f (ib_12 hi) ⟨ib_in hb, ?_⟩
    rw [ib_cl hb]
    refine wv_cX (by omega) (fun e => br_t rfl (nm_r (nI_1 i) ?_)) (fun e => br_f (by decide) ⟨ib_in hi, nm_r ?_ (nm_r (nI_1 i) hn)⟩)
    · rw [il_og_f e] at hn
      exact hn
    · rw [ib_cl hi, il_og_t e]
theorem wv_eY {post : Int32 → Prop} {A U S L : Nat → Int32} {b : Nat} (hb : b < 12) (h : post (il_og (bt (A b)) L 12)) : wpY_behind post (A, U, S, L) (nI b) := by
  refine ib_lo (fun n i s => wY_behind_4 post (nI b) A U S L n s (nI i)) (il_og (bt (A b)) L) 12 ?_ ?_
  · intro n
    exact br_t ib_e12 h
  · intro n i hi hn
    refine br_f (ib_12 hi) ⟨ib_in hb, ?_⟩
    rw [ib_cl hb]
    refine wv_hY (by omega) (fun e => br_t rfl (nm_r (nI_1 i) ?_)) (fun e => br_f (by decide) ⟨ib_in hi, nm_r ?_ (nm_r (nI_1 i) hn)⟩)
    · rw [il_og_f e] at hn
      exact hn
    · rw [ib_cl hi, il_og_t e]
theorem wv_sX {post : Int32 → Prop} {x : Int32} (h : post (nI (il_cn (bt x) 20))) : wpX_size post x := by
  refine ib_lo (fun n i s => wX_size_4 post x n s (nI i)) (fun i => nI (il_cn (bt x) i)) 20 ?_ ?_
  · intro n
    exact br_t ib_e20 h
  · intro n i hi hn
    refine br_f (ib_20 hi) (nm_r ?_ (nm_r (nI_1 i) hn))
    rw [ib_bit x (by omega)]
    show _ = nI (il_cn (bt x) i + (bt x i).toNat)
    cases e : bt x i
    · rw [if_neg (by decide)]
      exact Int32.add_zero _
    · rw [if_pos rfl]
      exact nI_1 _
theorem wv_sY {post : Int32 → Prop} {A U S L : Nat → Int32} {x : Int32} (h : post (nI (il_cn (bt x) 20))) : wpY_sizeOf post (A, U, S, L) x := by
  refine ib_lo (fun n i s => wY_sizeOf_4 post x A U S L n s (nI i)) (fun i => nI (il_cn (bt x) i)) 20 ?_ ?_
  · intro n
    exact br_t ib_e20 h
  · intro n i hi hn
    refine br_f (ib_20 hi) (wv_hY (by omega) (fun e => br_t rfl (nm_r (nI_1 i) ?_)) (fun e => br_f (by decide) (nm_r ?_ (nm_r (nI_1 i) hn))))
    · have z : il_cn (bt x) (i + 1) = il_cn (bt x) i := by
        show il_cn (bt x) i + (bt x i).toNat = _
        rw [e]
        rfl
      rw [z] at hn
      exact hn
    · show _ = nI (il_cn (bt x) i + (bt x i).toNat)
      rw [e]
      exact nI_1 _
/-- the blocks whose set holds v -/
def il_bw (L : Nat → Int32) (v : Nat) : Nat → Int32 := il_og (fun b => bt (L b) v) (fun b => (1 : Int32) <<< (nI b &&& 31))
theorem wv_wXl {post : Int32 → Prop} {A U S L : Nat → Int32} {v : Nat} (hv : v < 20) (h : post (il_bw L v 12)) : wpX_blocksWith__liveAtBegin post (A, U, S, L) (nI v) := by
  refine ib_lo (fun n i s => wX_blocksWith__liveAtBegin_4 post (nI v) A U S L n s (nI i)) (il_bw L v) 12 ?_ ?_
  · intro n
    exact br_t ib_e12 h
  · intro n i hi hn
    refine br_f (ib_12 hi) ⟨ib_in hi, ?_⟩
    rw [ib_cl hi]
    refine wv_cX (by omega) (fun e => br_t rfl (nm_r (nI_1 i) ?_)) (fun e => br_f (by decide) (nm_r (il_og_t (p := fun b => bt (L b) v) e).symm (nm_r (nI_1 i) hn)))
    have z : il_bw L v (i + 1) = il_bw L v i := il_og_f (p := fun b => bt (L b) v) e
    rw [z] at hn
    exact hn
theorem wv_wXs {post : Int32 → Prop} {A U S L : Nat → Int32} {v : Nat} (hv : v < 20) (h : post (il_bw S v 12)) : wpX_blocksWith__setIn post (A, U, S, L) (nI v) := by
  refine ib_lo (fun n i s => wX_blocksWith__setIn_4 post (nI v) A U S L n s (nI i)) (il_bw S v) 12 ?_ ?_
  · intro n
    exact br_t ib_e12 h
  · intro n i hi hn
    refine br_f (ib_12 hi) ⟨ib_in hi, ?_⟩
    rw [ib_cl hi]
    refine wv_cX (by omega) (fun e => br_t rfl (nm_r (nI_1 i) ?_)) (fun e => br_f (by decide) (nm_r (il_og_t (p := fun b => bt (S b) v) e).symm (nm_r (nI_1 i) hn)))
    have z : il_bw S v (i + 1) = il_bw S v i := il_og_f (p := fun b => bt (S b) v) e
    rw [z] at hn
    exact hn
/-- one member switched in a's set -/
def il_sw (A : Nat → Int32) (a b : Nat) (on : Int32) : Nat → Int32 := upd A a (if on = 0 then A a &&& (((1 : Int32) <<< (nI b &&& 31)) ^^^ (-1)) else A a ||| ((1 : Int32) <<< (nI b &&& 31)))
theorem il_sw_0 {A : Nat → Int32} {a b : Nat} {on : Int32} (h : on = 0) : il_sw A a b on = upd A a (A a &&& (((1 : Int32) <<< (nI b &&& 31)) ^^^ (-1))) := by
  unfold il_sw
  rw [if_pos h]
theorem il_sw_1 {A : Nat → Int32} {a b : Nat} {on : Int32} (h : ¬ on = 0) : il_sw A a b on = upd A a (A a ||| ((1 : Int32) <<< (nI b &&& 31))) := by
  unfold il_sw
  rw [if_neg h]
theorem wv_mA {post : Int32 → SX → Prop} {A U S L : Nat → Int32} {a b : Nat} {on : Int32} (ha : a < 12) (h : post ((A a >>> (nI b &&& 31)) &&& 1) (il_sw A a b on, U, S, L)) : wpX_switchMember__arcsFrom post (A, U, S, L) (nI a) (nI b) on := by
  unfold wpX_switchMember__arcsFrom
  dsimp only
  rw [ib_cl ha]
  refine ⟨ib_in ha, nm_e (br_c (fun e => ⟨ib_in ha, ib_in ha, nm_e ?_⟩) (fun e => ⟨ib_in ha, ib_in ha, nm_e ?_⟩))⟩
  · rw [il_sw_0 e] at h
    exact h
  · rw [il_sw_1 e] at h
    exact h
theorem wv_mU {post : Int32 → SX → Prop} {A U S L : Nat → Int32} {a b : Nat} {on : Int32} (ha : a < 12) (h : post ((U a >>> (nI b &&& 31)) &&& 1) (A, il_sw U a b on, S, L)) : wpX_switchMember__usedIn post (A, U, S, L) (nI a) (nI b) on := by
  unfold wpX_switchMember__usedIn
  dsimp only
  rw [ib_cl ha]
  refine ⟨ib_in ha, nm_e (br_c (fun e => ⟨ib_in ha, ib_in ha, nm_e ?_⟩) (fun e => ⟨ib_in ha, ib_in ha, nm_e ?_⟩))⟩
  · rw [il_sw_0 e] at h
    exact h
  · rw [il_sw_1 e] at h
    exact h
theorem wv_mS {post : Int32 → SX → Prop} {A U S L : Nat → Int32} {a b : Nat} {on : Int32} (ha : a < 12) (h : post ((S a >>> (nI b &&& 31)) &&& 1) (A, U, il_sw S a b on, L)) : wpX_switchMember__setIn post (A, U, S, L) (nI a) (nI b) on := by
  unfold wpX_switchMember__setIn
  dsimp only
  rw [ib_cl ha]
  refine ⟨ib_in ha, nm_e (br_c (fun e => ⟨ib_in ha, ib_in ha, nm_e ?_⟩) (fun e => ⟨ib_in ha, ib_in ha, nm_e ?_⟩))⟩
  · rw [il_sw_0 e] at h
    exact h
  · rw [il_sw_1 e] at h
    exact h
end
section
/-! refreshLive and spread both end at the twelfth level -/
theorem wv_31 {post : SX → Prop} {J : Int32 → (Nat → Int32) → (Nat → Int32) → (Nat → Int32) → (Nat → Int32) → Prop} {A U S L : Nat → Int32} {p : Nat} (h0 : il_In A U S p 0 L) (h : ∀ L', il_In A U S p 12 L' → J (nI (p + 1)) A U S L') : ∃ n, wX_refreshLive_31 post J (nI p) n 0 A U S L := by
  refine loop_0 (fun n i L => wX_refreshLive_31 post J (nI p) n (nI i) A U S L) (fun i L => il_In A U S p i L) 12 L h0 ?_ ?_
  · intro n L' hI
    exact br_t ib_e12 (nm_r (nI_1 p) (h L' hI))
  · intro n i L' hi hI ih
    refine br_f (ib_12 hi) (wv_eX hi ⟨ib_in hi, ib_in hi, ib_in hi, ?_⟩)
    rw [ib_cl hi]
    refine nm_e (nm_r (nI_1 i) (ih _ (il_step hI hi (fun i hi h => h) (fun i hi h => Or.inl h))))
theorem wv_23 {post : SX → Prop} {A U S L : Nat → Int32} (h0 : il_In A U S 0 0 L) (h : ∀ L', (∀ c, c < 12 → L' c = il_fl A U S 12 c) → post (A, U, S, L')) : ∃ n, wX_refreshLive_23 post n 0 A U S L := by
  refine loop_0 (fun n p L => wX_refreshLive_23 post n (nI p) A U S L) (fun p L => il_In A U S p 0 L) 12 L h0 ?_ ?_
  · intro n L' hI
    exact br_t ib_e12 (h L' (il_end hI))
  · intro n i L' hi hI ih
    exact br_f (ib_12 hi) (wv_31 hI (fun L'' hI' => ih L'' (il_next hI')))
theorem wv_rX {post : SX → Prop} {A U S L : Nat → Int32} (h : ∀ L', (∀ c, c < 12 → L' c = il_fl A U S 12 c) → post (A, U, S, L')) : wpX_refreshLive post (A, U, S, L) := by
  refine loop_0 (fun n p L => wX_refreshLive_2 post n (nI p) A U S L) (fun p L => ∀ b, b < p → L b = 0) 12 L (fun b hb => by omega) ?_ ?_
  · intro n L' hI
    exact br_t ib_e12 (wv_23 (il_beg0 hI) h)
  · intro n i L' hi hI ih
    refine br_f (ib_12 hi) ⟨ib_in hi, ?_⟩
    rw [ib_cl hi]
    refine nm_e (nm_r (nI_1 i) (ih _ (fun b hb => ?_)))
    by_cases e : b = i
    · subst e
      exact pk_us
    · rw [pk_un e]
      exact hI b (by omega)
theorem wv_36 {post : SY → Prop} {J : Int32 → (Nat → Int32) → (Nat → Int32) → (Nat → Int32) → (Nat → Int32) → Prop} {A U S L : Nat → Int32} {p : Nat} (h0 : il_In A U S p 0 L) (hU : ∀ b, b < 12 → ∀ i, bt (U b) i = true → bt (L b) i = true) (h : ∀ L', il_In A U S p 12 L' → (∀ b, b < 12 → ∀ i, bt (U b) i = true → bt (L' b) i = true) → J (nI (p + 1)) A U S L') : ∃ n, wY_spread_36 post J (nI p) n 0 A U S L := by
  refine loop_0 (fun n i L => wY_spread_36 post J (nI p) n (nI i) A U S L) (fun i L => il_In A U S p i L ∧ ∀ b, b < 12 → ∀ i, bt (U b) i = true → bt (L b) i = true) 12 L ⟨h0, hU⟩ ?_ ?_
  · intro n L' hI
    exact br_t ib_e12 (nm_r (nI_1 p) (h L' hI.1 hI.2))
  · intro n i L' hi hI ih
    refine br_f (ib_12 hi) ⟨ib_in hi, wv_eY hi ⟨ib_in hi, ib_in hi, ?_⟩⟩
    rw [ib_cl hi]
    refine nm_e (nm_r (nI_1 i) (ih _ ⟨il_step hI.1 hi (fun k hk h => ?_) (fun k hk h => ?_), fun b hb k h => ?_⟩))
    · unfold il_fo at h
      rw [b_or, Bool.or_eq_true] at h ⊢
      exact h.imp (hI.2 i hi k) id
    · unfold il_fo
      rw [b_or, Bool.or_eq_true] at h ⊢
      rcases h with h | h
      · exact Or.inr h
      · exact Or.inl (Or.inr h)
    · by_cases e : b = i
      · subst e
        rw [pk_us, b_or, Bool.or_eq_true]
        exact Or.inl (hI.2 b hb k h)
      · rw [pk_un e]
        exact hI.2 b hb k h
theorem wv_28 {post : SY → Prop} {A U S L : Nat → Int32} (h0 : il_In A U S 0 0 L) (hU : ∀ b, b < 12 → ∀ i, bt (U b) i = true → bt (L b) i = true) (h : ∀ L', (∀ c, c < 12 → L' c = il_fl A U S 12 c) → post (A, U, S, L')) : ∃ n, wY_spread_28 post n 0 A U S L := by
  refine loop_0 (fun n p L => wY_spread_28 post n (nI p) A U S L) (fun p L => il_In A U S p 0 L ∧ ∀ b, b < 12 → ∀ i, bt (U b) i = true → bt (L b) i = true) 12 L ⟨h0, hU⟩ ?_ ?_
  · intro n L' hI
    exact br_t ib_e12 (h L' (il_end hI.1))
  · intro n i L' hi hI ih
    exact br_f (ib_12 hi) (wv_36 hI.1 hI.2 (fun L'' hI' hU' => ih L'' ⟨il_next hI', hU'⟩))
theorem wv_rY {post : SY → Prop} {A U S L : Nat → Int32} (h : ∀ L', (∀ c, c < 12 → L' c = il_fl A U S 12 c) → post (A, U, S, L')) : wpY_spread post (A, U, S, L) := by
  refine loop_0 (fun n p L => wY_spread_2 post n (nI p) A U S L) (fun p L => ∀ b, b < p → L b = U b) 12 L (fun b hb => by omega) ?_ ?_
  · intro n L' hI
    exact br_t ib_e12 (wv_28 (il_begU hI) (fun b hb i h => by rw [hI b hb]; exact h) h)
  · intro n i L' hi hI ih
    refine br_f (ib_12 hi) ⟨ib_in hi, ib_in hi, ?_⟩
    rw [ib_cl hi]
    refine nm_e (nm_r (nI_1 i) (ih _ (fun b hb => ?_)))
    by_cases e : b = i
    · subst e
      exact pk_us
    · rw [pk_un e]
      exact hI b (by omega)
end
section
/-! reaching: levels of 'has a way to t with no setter inside', searched backwards by the one side, forwards by the other -/
def il_ex (p : Nat → Bool) : Nat → Bool
  | 0 => false
  | n + 1 => il_ex p n || p n
theorem il_ex_b {p : Nat → Bool} : ∀ n, il_ex p n = true ↔ ∃ c, c < n ∧ p c = true := by
  intro n
  induction n with
  | zero =>
    constructor
    · intro h; cases h
    · rintro ⟨c, hc, _⟩; omega
  | succ n ih =>
    show (il_ex p n || p n) = true ↔ _
    rw [Bool.or_eq_true, ih]
    constructor
    · rintro (⟨c, hc, h⟩ | h)
      · exact ⟨c, by omega, h⟩
      · exact ⟨n, by omega, h⟩
    · rintro ⟨c, hc, h⟩
      by_cases z : c = n
      · subst z
        exact Or.inr h
      · exact Or.inl ⟨c, by omega, h⟩
def il_ro (A S : Nat → Int32) (t v : Nat) (R : Nat → Bool) (a : Nat) : Bool := il_ex (fun c => bt (A a) c && (decide (c = t) || (!bt (S c) v && R c))) 12
def il_rb (A S : Nat → Int32) (t v : Nat) : Nat → Nat → Bool
  | 0 => fun _ => false
  | n + 1 => fun a => il_ro A S t v (il_rb A S t v n) a
theorem il_ro_b {A S : Nat → Int32} {t v : Nat} {R : Nat → Bool} {a : Nat} : il_ro A S t v R a = true ↔ ∃ c, c < 12 ∧ bt (A a) c = true ∧ (c = t ∨ (bt (S c) v = false ∧ R c = true)) := by
  unfold il_ro
  rw [il_ex_b]
  simp only [Bool.and_eq_true, Bool.or_eq_true, decide_eq_true_eq, Bool.not_eq_true']
theorem il_ro_m {A S : Nat → Int32} {t v : Nat} {R Q : Nat → Bool} {a : Nat} (h : ∀ c, c < 12 → R c = true → Q c = true) (ha : il_ro A S t v R a = true) : il_ro A S t v Q a = true := by
  rw [il_ro_b] at ha ⊢
  obtain ⟨c, hc, h1, h2⟩ := ha
  exact ⟨c, hc, h1, h2.imp id (fun z => ⟨z.1, h c hc z.2⟩)⟩
theorem il_rb_s {A S : Nat → Int32} {t v : Nat} : ∀ n b, b < 12 → il_rb A S t v n b = true → il_rb A S t v (n + 1) b = true := by
  intro n
  induction n with
  | zero => intro b hb h; cases h
  | succ n ih => exact fun b hb h => il_ro_m (R := il_rb A S t v n) (Q := il_rb A S t v (n + 1)) ih h
theorem il_rb_13 {A S : Nat → Int32} {t v b : Nat} (hb : b < 12) (h : il_ro A S t v (il_rb A S t v 12) b = true) : il_rb A S t v 12 b = true := by
  have := il_pg (il_rb A S t v) 12 il_rb_s (fun n hn b hb => by
    show il_ro A S t v (il_rb A S t v (n + 1)) b = il_ro A S t v (il_rb A S t v n) b
    apply Bool.eq_iff_iff.mpr
    exact ⟨il_ro_m (fun c hc h => by rw [← hn c hc]; exact h), il_ro_m (fun c hc h => (hn c hc).trans h)⟩) b hb
  exact this.symm.trans h
theorem il_bw_b {L : Nat → Int32} {v i : Nat} (hi : i < 32) : bt (il_bw L v 12) i = true ↔ i < 12 ∧ bt (L i) v = true := by
  unfold il_bw
  rw [il_og_b]
  constructor
  · rintro ⟨c, hc, h1, h2⟩
    rw [ib_shl (by omega) hi, decide_eq_true_eq] at h2
    subst h2
    exact ⟨hc, h1⟩
  · rintro ⟨hc, h1⟩
    exact ⟨i, hc, h1, by rw [ib_shl (by omega) hi, decide_eq_true_eq]⟩
def il_G (A S : Nat → Int32) (t v m c : Nat) : Prop := c = t ∨ (bt (S c) v = false ∧ il_rb A S t v m c = true)
/-- what blocksBefore holds after p passes -/
def il_Be (A S : Nat → Int32) (t v p : Nat) (x : Int32) : Prop := ∀ a, a < 32 → (bt x a = true ↔ a < 12 ∧ il_rb A S t v p a = true)
def il_Op (A S : Nat → Int32) (t v p : Nat) (x : Int32) : Prop := ∀ c, c < 32 → (bt x c = true ↔ c < 12 ∧ il_G A S t v p c)
theorem il_op_t {A S : Nat → Int32} {t v p : Nat} {x : Int32} {a : Nat} (ho : il_Op A S t v p x) : (A a &&& x) = 0 ↔ il_rb A S t v (p + 1) a = false := by
  rw [ib_eq0]
  constructor
  · intro h
    apply ib_tf
    intro z
    obtain ⟨c, hc, h1, h2⟩ := il_ro_b.mp z
    have h3 := h c (by omega)
    rw [b_and, h1, (ho c (by omega)).mpr ⟨hc, h2⟩] at h3
    cases h3
  · intro h i hi
    apply ib_tf
    intro z
    rw [b_and, Bool.and_eq_true] at z
    obtain ⟨hc, hG⟩ := (ho i hi).mp z.2
    have : il_rb A S t v (p + 1) a = true := il_ro_b.mpr ⟨i, hc, z.1, hG⟩
    rw [h] at this
    cases this
theorem wv_20 {post : Int32 → Prop} {J : Int32 → Int32 → Int32 → Prop} {A U S L : Nat → Int32} {t v p : Nat} {x3 x4 st : Int32} (ho : il_Op A S t v p x4) (h0 : il_Be A S t v p x3) (h : ∀ x, il_Be A S t v (p + 1) x → J x (x4 ||| (x &&& (st ^^^ (-1)))) (nI (p + 1))) : ∃ n, wX_blocksBefore_20 post J st x4 (nI p) A U S L n x3 0 := by
  refine loop_0 (fun n i x => wX_blocksBefore_20 post J st x4 (nI p) A U S L n x (nI i)) (fun i x => ∀ a, a < 32 → (bt x a = true ↔ a < 12 ∧ (il_rb A S t v p a = true ∨ (a < i ∧ il_rb A S t v (p + 1) a = true)))) 12 x3 ?_ ?_ ?_
  · intro a ha
    rw [h0 a ha]
    constructor
    · exact fun z => ⟨z.1, Or.inl z.2⟩
    · rintro ⟨z, z1 | ⟨z1, _⟩⟩
      · exact ⟨z, z1⟩
      · omega
  · intro n x hI
    refine br_t ib_e12 (nm_e (nm_r (nI_1 p) (h x ?_)))
    intro a ha
    rw [hI a ha]
    constructor
    · rintro ⟨z, z1 | ⟨z1, z2⟩⟩
      · exact ⟨z, il_rb_s p a z z1⟩
      · exact ⟨z, z2⟩
    · exact fun z => ⟨z.1, Or.inr ⟨z.1, z.2⟩⟩
  · intro n i x hi hI ih
    refine br_f (ib_12 hi) ⟨ib_in hi, ?_⟩
    rw [ib_cl hi]
    refine br_c (fun e => nm_r (nI_1 i) (ih _ ?_)) (fun e => nm_e (nm_r (nI_1 i) (ih _ ?_)))
    · rw [il_op_t ho] at e
      intro a ha
      rw [hI a ha]
      constructor
      · rintro ⟨z, z1 | ⟨z1, z2⟩⟩
        · exact ⟨z, Or.inl z1⟩
        · exact ⟨z, Or.inr ⟨by omega, z2⟩⟩
      · rintro ⟨z, z1 | ⟨z1, z2⟩⟩
        · exact ⟨z, Or.inl z1⟩
        · by_cases q : a = i
          · subst q
            rw [e] at z2
            cases z2
          · exact ⟨z, Or.inr ⟨by omega, z2⟩⟩
    · rw [il_op_t ho] at e
      intro a ha
      rw [b_or, Bool.or_eq_true, hI a ha, ib_shl (by omega) ha, decide_eq_true_eq]
      constructor
      · rintro (⟨z, z1 | ⟨z1, z2⟩⟩ | z)
        · exact ⟨z, Or.inl z1⟩
        · exact ⟨z, Or.inr ⟨by omega, z2⟩⟩
        · subst z
          exact ⟨hi, Or.inr ⟨by omega, by cases q : il_rb A S t v (p + 1) a <;> simp_all⟩⟩
      · rintro ⟨z, z1 | ⟨z1, z2⟩⟩
        · exact Or.inl ⟨z, Or.inl z1⟩
        · by_cases q : a = i
          · exact Or.inr q
          · exact Or.inl ⟨z, Or.inr ⟨by omega, z2⟩⟩
theorem wv_bb {post : Int32 → Prop} {A U S L : Nat → Int32} {t v : Nat} (ht : t < 12) (h : ∀ x, il_Be A S t v 12 x → post x) : wpX_blocksBefore post (A, U, S, L) (nI t) (il_bw S v 12) := by
  unfold wpX_blocksBefore
  dsimp only
  refine nm_e ?_
  refine loop_0 (fun n p (s : Int32 × Int32) => wX_blocksBefore_10 post (il_bw S v 12) A U S L n s.1 s.2 (nI p)) (fun p s => il_Be A S t v p s.1 ∧ il_Op A S t v p s.2) 12 (0, (1 : Int32) <<< (nI t &&& 31)) ⟨?_, ?_⟩ ?_ ?_
  · intro a ha
    show bt 0 a = true ↔ _
    rw [b_0]
    constructor
    · intro z; cases z
    · rintro ⟨_, z⟩; cases z
  · intro c hc
    show bt ((1 : Int32) <<< (nI t &&& 31)) c = true ↔ _
    rw [ib_shl (by omega) hc, decide_eq_true_eq]
    constructor
    · intro z
      exact ⟨by omega, Or.inl z⟩
    · rintro ⟨_, z | ⟨_, z⟩⟩
      · exact z
      · cases z
  · intro n s hI
    exact br_t ib_e12 (h s.1 hI.1)
  · intro n i s hi hI ih
    refine br_f (ib_12 hi) (wv_20 hI.2 hI.1 (fun x hx => ih (x, s.2 ||| (x &&& (il_bw S v 12 ^^^ (-1)))) ⟨hx, ?_⟩))
    intro c hc
    show bt (s.2 ||| (x &&& (il_bw S v 12 ^^^ (-1)))) c = true ↔ _
    rw [b_or, b_and, ib_not _ hc, Bool.or_eq_true, Bool.and_eq_true, hx c hc, hI.2 c hc, Bool.not_eq_true']
    constructor
    · rintro (⟨z, z1 | ⟨z1, z2⟩⟩ | ⟨⟨z, z1⟩, z2⟩)
      · exact ⟨z, Or.inl z1⟩
      · exact ⟨z, Or.inr ⟨z1, il_rb_s i c z z2⟩⟩
      · refine ⟨z, Or.inr ⟨?_, z1⟩⟩
        apply ib_tf
        intro q
        rw [(il_bw_b hc).mpr ⟨z, q⟩] at z2
        cases z2
    · rintro ⟨z, z1 | ⟨z1, z2⟩⟩
      · exact Or.inl ⟨z, Or.inl z1⟩
      · refine Or.inr ⟨⟨z, z2⟩, ?_⟩
        apply ib_tf
        intro q
        rw [((il_bw_b hc).mp q).2] at z1
        cases z1
def il_Sd (A S : Nat → Int32) (t v a : Nat) (x : Int32) : Prop := ∀ c, c < 12 → bt x c = true → il_G A S t v 12 c → il_rb A S t v 12 a = true
theorem wv_f20 {post : Int32 → Prop} {J : Int32 → Int32 → Prop} {A U S M : Nat → Int32} {t v p a : Nat} {s0 : Int32} (hv : v < 20) (h0 : il_Sd A S t v a s0) (h : ∀ x, (∀ c, bt s0 c = true → bt x c = true) → (∀ c, c < 12 → bt s0 c = true → bt (S c) v = false → ∀ d, bt (A c) d = true → bt x d = true) → il_Sd A S t v a x → J x (nI (p + 1))) : ∃ n, wY_far_20 post J (nI v) (nI p) A U S M n s0 0 := by
  refine loop_0 (fun n i x => wY_far_20 post J (nI v) (nI p) A U S M n x (nI i)) (fun i x => (∀ c, bt s0 c = true → bt x c = true) ∧ (∀ c, c < i → bt s0 c = true → bt (S c) v = false → ∀ d, bt (A c) d = true → bt x d = true) ∧ il_Sd A S t v a x) 12 s0 ⟨fun c z => z, fun c hc => by omega, h0⟩ ?_ ?_
  · intro n x hI
    exact br_t ib_e12 (nm_r (nI_1 p) (h x hI.1 hI.2.1 hI.2.2))
  · intro n i x hi hI ih
    obtain ⟨k1, k2, k3⟩ := hI
    refine br_f (ib_12 hi) (wv_hY (by omega) (fun e => br_t rfl (nm_r (nI_1 i) (ih _ ⟨k1, fun c hc z => ?_, k3⟩))) (fun e => br_f (by decide) ⟨ib_in hi, ?_⟩))
    · by_cases q : c = i
      · subst q
        rw [k1 c z] at e
        cases e
      · exact k2 c (by omega) z
    · rw [ib_cl hi]
      refine wv_hY (by omega) (fun e2 => br_t rfl ⟨ib_in hi, nm_e (nm_r (nI_1 i) (ih _ ⟨fun c z => ?_, fun c hc z z2 d z3 => ?_, fun c hc z hG => ?_⟩))⟩) (fun e2 => br_f (by decide) (nm_r (nI_1 i) (ih _ ⟨k1, fun c hc z z2 => ?_, k3⟩)))
      · rw [b_or, k1 c z]
        rfl
      · rw [b_or, Bool.or_eq_true]
        by_cases q : c = i
        · subst q
          exact Or.inr z3
        · exact Or.inl (k2 c (by omega) z z2 d z3)
      · rw [b_or, Bool.or_eq_true] at z
        rcases z with z | z
        · exact k3 c hc z hG
        · exact k3 i hi e (Or.inr ⟨e2, il_rb_13 hi (il_ro_b.mpr ⟨c, hc, z, hG⟩)⟩)
      · by_cases q : c = i
        · subst q
          rw [z2] at e2
          cases e2
        · exact k2 c (by omega) z z2
theorem wv_far {post : Int32 → Prop} {A U S M : Nat → Int32} {t v a : Nat} (ha : a < 12) (hv : v < 20) (ht : t < 12) (h : ∀ x, bt x t = il_rb A S t v 12 a → post x) : wpY_far post (A, U, S, M) (nI a) (nI v) := by
  unfold wpY_far
  dsimp only
  rw [ib_cl ha]
  refine ⟨ib_in ha, nm_e ?_⟩
  refine loop_0 (fun n p x => wY_far_10 post (nI v) A U S M n x (nI p)) (fun p x => il_Sd A S t v a x ∧ (il_rb A S t v 12 a = true → ∃ c, c < 12 ∧ bt x c = true ∧ il_G A S t v (11 - p) c)) 12 (A a) ⟨fun c hc z hG => il_rb_13 ha (il_ro_b.mpr ⟨c, hc, z, hG⟩), fun z => il_ro_b.mp z⟩ ?_ ?_
  · intro n x hI
    refine br_t ib_e12 (h x (Bool.eq_iff_iff.mpr ⟨fun z => hI.1 t ht z (Or.inl rfl), fun z => ?_⟩))
    obtain ⟨c, hc, z1, z2 | ⟨_, z2⟩⟩ := hI.2 z
    · subst z2
      exact z1
    · cases z2
  · intro n i x hi hI ih
    refine br_f (ib_12 hi) (wv_f20 hv hI.1 (fun y k1 k2 k3 => ih y ⟨k3, fun z => ?_⟩))
    obtain ⟨c, hc, z1, z2 | ⟨z2, z3⟩⟩ := hI.2 z
    · exact ⟨c, hc, k1 c z1, Or.inl z2⟩
    · by_cases q : i < 11
      · rw [show 11 - i = (11 - (i + 1)) + 1 by omega] at z3
        obtain ⟨d, hd, w1, w2⟩ := il_ro_b.mp z3
        exact ⟨d, hd, k2 c hc z1 z2 d w1, w2⟩
      · rw [show 11 - i = 0 by omega] at z3
        cases z3
/-- what reaching answers -/
def il_re (A S : Nat → Int32) (t v : Nat) : Nat → Int32 := il_og (fun a => bt (S a) v && il_rb A S t v 12 a) (fun a => (1 : Int32) <<< (nI a &&& 31))
theorem il_re_f {A S : Nat → Int32} {t v i : Nat} (h : (bt (S i) v && il_rb A S t v 12 i) = false) : il_re A S t v (i + 1) = il_re A S t v i := il_og_f (p := fun a => bt (S a) v && il_rb A S t v 12 a) h
theorem il_re_t {A S : Nat → Int32} {t v i : Nat} (h : (bt (S i) v && il_rb A S t v 12 i) = true) : il_re A S t v (i + 1) = il_re A S t v i ||| ((1 : Int32) <<< (nI i &&& 31)) := il_og_t (p := fun a => bt (S a) v && il_rb A S t v 12 a) h
theorem il_re_x {A S : Nat → Int32} {t v : Nat} {x : Int32} (h : il_Be A S t v 12 x) : il_bw S v 12 &&& x = il_re A S t v 12 := by
  apply b_ext
  intro i hi
  apply Bool.eq_iff_iff.mpr
  unfold il_re
  rw [b_and, Bool.and_eq_true, il_bw_b hi, h i hi, il_og_b]
  constructor
  · rintro ⟨⟨z, z1⟩, _, z2⟩
    exact ⟨i, z, by rw [z1, z2]; rfl, by rw [ib_shl (by omega) hi, decide_eq_true_eq]⟩
  · rintro ⟨c, hc, h1, h2⟩
    rw [ib_shl (by omega) hi, decide_eq_true_eq] at h2
    subst h2
    rw [Bool.and_eq_true] at h1
    exact ⟨⟨hc, h1.1⟩, hc, h1.2⟩
theorem wv_r23 {post : Int32 → Prop} {A U S M : Nat → Int32} {t v : Nat} (ht : t < 12) (hv : v < 20) (h : post (il_re A S t v 12)) : ∃ n, wY_reaching_23 post (nI t) (nI v) A U S M n 0 0 := by
  refine ib_lo (fun n i s => wY_reaching_23 post (nI t) (nI v) A U S M n s (nI i)) (il_re A S t v) 12 ?_ ?_
  · intro n
    exact br_t ib_e12 h
  · intro n i hi hn
    refine br_f (ib_12 hi) (wv_far hi hv ht (fun x hx => ⟨ib_in hi, ?_⟩))
    rw [ib_cl hi]
    refine wv_hY (by omega) (fun e => br_t rfl (nm_r (nI_1 i) ?_)) (fun e => br_f (by decide) (wv_hY (by omega) (fun e2 => br_t rfl (nm_r (nI_1 i) ?_)) (fun e2 => br_f (by decide) (nm_r ?_ (nm_r (nI_1 i) hn)))))
    · rw [il_re_f (by rw [e]; rfl)] at hn
      exact hn
    · rw [il_re_f (by rw [e, ← hx, e2]; rfl)] at hn
      exact hn
    · rw [il_re_t (by rw [e, ← hx, e2]; rfl)]
end
section
/-! sums: idleSets, pressure, crowded -/
theorem il_sm_a {f g : Nat → Nat} : ∀ n, il_sm (fun i => f i + g i) n = il_sm f n + il_sm g n := by
  intro n
  induction n with
  | zero => rfl
  | succ n ih =>
    show il_sm (fun i => f i + g i) n + (f n + g n) = (il_sm f n + f n) + (il_sm g n + g n)
    omega
theorem il_sm_z {f : Nat → Nat} : ∀ n, (∀ i, i < n → f i = 0) → il_sm f n = 0 := by
  intro n
  induction n with
  | zero => intro _; rfl
  | succ n ih =>
    intro h
    show il_sm f n + f n = 0
    rw [ih (fun i hi => h i (by omega)), h n (by omega)]
theorem il_sm_w {f : Nat → Nat → Nat} {m : Nat} : ∀ n, il_sm (fun v => il_sm (fun w => f v w) m) n = il_sm (fun w => il_sm (fun v => f v w) n) m := by
  intro n
  induction n with
  | zero => exact (il_sm_z m (fun _ _ => rfl)).symm
  | succ n ih =>
    show il_sm (fun v => il_sm (fun w => f v w) m) n + il_sm (fun w => f n w) m = il_sm (fun w => il_sm (fun v => f v w) n + f n w) m
    rw [il_sm_a, ih]
theorem il_sm_s {f : Nat → Nat} {m : Nat} : ∀ n, il_sm f (m + n) = il_sm f m + il_sm (fun i => f (m + i)) n := by
  intro n
  induction n with
  | zero => rfl
  | succ n ih =>
    show il_sm f (m + n) + f (m + n) = il_sm f m + (il_sm (fun i => f (m + i)) n + f (m + n))
    omega
theorem il_sm_l {f : Nat → Nat} {k : Nat} : ∀ n, (∀ i, i < n → f i ≤ k) → il_sm f n ≤ n * k := by
  intro n
  induction n with
  | zero => intro _; exact Nat.zero_le _
  | succ n ih =>
    intro h
    have h1 := ih (fun i hi => h i (by omega))
    have h2 := h n (by omega)
    show il_sm f n + f n ≤ (n + 1) * k
    rw [Nat.succ_mul]
    omega
theorem il_cn_s (p : Nat → Bool) : ∀ n, il_cn p n = il_sm (fun i => (p i).toNat) n := by
  intro n
  induction n with
  | zero => rfl
  | succ n ih =>
    show il_cn p n + (p n).toNat = il_sm (fun i => (p i).toNat) n + (p n).toNat
    rw [ih]
/-- all that lives beside v -/
def il_cw (L : Nat → Int32) (v : Nat) : Int32 := il_og (fun b => bt (L b) v) L 12
theorem il_cw_b {L : Nat → Int32} {v w : Nat} : bt (il_cw L v) w = true ↔ ∃ b, b < 12 ∧ bt (L b) v = true ∧ bt (L b) w = true := il_og_b 12
theorem il_cw_s {L : Nat → Int32} {v w : Nat} : bt (il_cw L v) w = bt (il_cw L w) v := by
  apply Bool.eq_iff_iff.mpr
  rw [il_cw_b, il_cw_b]
  constructor
  · rintro ⟨b, hb, h1, h2⟩; exact ⟨b, hb, h2, h1⟩
  · rintro ⟨b, hb, h1, h2⟩; exact ⟨b, hb, h2, h1⟩
theorem il_cw_h {L : Nat → Int32} (hL : ∀ b, b < 12 → ∀ i, 20 ≤ i → bt (L b) i = false) {v w : Nat} (hw : 20 ≤ w) : bt (il_cw L v) w = false := by
  apply ib_tf
  intro h
  obtain ⟨b, hb, _, h2⟩ := il_cw_b.mp h
  rw [hL b hb w hw] at h2
  cases h2
def il_K (L : Nat → Int32) (v w : Nat) : Nat := (decide (v < w) && bt (il_cw L v) w).toNat
def il_cX (L : Nat → Int32) (v : Nat) : Nat := il_cn (bt (il_cw L v >>> (nI (v + 1) &&& 31))) 20
def il_cY (L : Nat → Int32) (v : Nat) : Nat := il_cn (bt (il_cw L v &&& (((1 : Int32) <<< (nI v &&& 31)) ^^^ (-1)))) 20
theorem il_cX_K {L : Nat → Int32} (hL : ∀ b, b < 12 → ∀ i, 20 ≤ i → bt (L b) i = false) {v : Nat} (hv : v < 20) : il_cX L v = il_sm (il_K L v) 20 := by
  have e1 : il_sm (il_K L v) (20 + (v + 1)) = il_sm (il_K L v) 20 := by
    rw [il_sm_s, il_sm_z (v + 1) (fun i hi => ?_), Nat.add_zero]
    unfold il_K
    rw [il_cw_h hL (by omega), Bool.and_false]
    rfl
  have e2 : il_sm (il_K L v) ((v + 1) + 20) = il_sm (fun i => il_K L v (v + 1 + i)) 20 := by
    rw [il_sm_s, il_sm_z (v + 1) (fun i hi => ?_), Nat.zero_add]
    unfold il_K
    rw [decide_eq_false (by omega), Bool.false_and]
    rfl
  rw [Nat.add_comm, e2] at e1
  rw [← e1]
  unfold il_cX
  rw [il_cn_s]
  apply il_sm_c
  intro i hi
  unfold il_K
  rw [b_sshr (v + 1) (by omega) _ (by omega), decide_eq_true (by omega), Bool.true_and]
  by_cases q : v + 1 + i < 32
  · rw [if_pos q]
  · rw [if_neg q, il_cw_h hL (by omega), il_cw_h hL (by omega)]
theorem il_cY_K {L : Nat → Int32} {v : Nat} (hv : v < 20) : il_cY L v = il_sm (fun w => il_K L v w + il_K L w v) 20 := by
  unfold il_cY
  rw [il_cn_s]
  apply il_sm_c
  intro w hw
  unfold il_K
  rw [b_and, ib_not _ (by omega), ib_shl (by omega) (by omega), il_cw_s (v := w) (w := v)]
  by_cases q : w = v
  · rw [decide_eq_true q, decide_eq_false (by omega : ¬ v < w), decide_eq_false (by omega : ¬ w < v)]
    cases bt (il_cw L v) w <;> rfl
  · by_cases q2 : v < w
    · rw [decide_eq_false q, decide_eq_true q2, decide_eq_false (by omega : ¬ w < v)]
      cases bt (il_cw L v) w <;> rfl
    · rw [decide_eq_false q, decide_eq_false q2, decide_eq_true (by omega : w < v)]
      cases bt (il_cw L v) w <;> rfl
theorem il_crowd {L : Nat → Int32} (hL : ∀ b, b < 12 → ∀ i, 20 ≤ i → bt (L b) i = false) : nI (il_sm (il_cY L) 20) / 2 = nI (il_sm (il_cX L) 20) := by
  have e1 : il_sm (il_cX L) 20 = il_sm (fun v => il_sm (il_K L v) 20) 20 := il_sm_c 20 (fun v hv => il_cX_K hL hv)
  have e2 : il_sm (il_cY L) 20 = il_sm (fun v => il_sm (il_K L v) 20) 20 + il_sm (fun v => il_sm (il_K L v) 20) 20 := by
    rw [il_sm_c 20 (fun v hv => il_cY_K hv)]
    have : il_sm (fun v => il_sm (fun w => il_K L v w + il_K L w v) 20) 20 = il_sm (fun v => il_sm (fun w => il_K L v w) 20 + il_sm (fun w => il_K L w v) 20) 20 := il_sm_c 20 (fun v _ => il_sm_a 20)
    rw [this, il_sm_a, il_sm_w (f := fun v w => il_K L w v) 20]
  have hb : il_sm (il_cX L) 20 ≤ 20 * 20 := il_sm_l 20 (fun v _ => il_cn_n _ 20)
  rw [e1] at hb
  rw [e1, e2]
  generalize il_sm (fun v => il_sm (il_K L v) 20) 20 = T at hb
  show nI (T + T) / nI 2 = nI T
  rw [pk_div (by omega) (by decide) (by decide)]
  exact congrArg nI (by omega)
end
section
/-! each public method against its picture, each side by itself -/
theorem xv_arc {post : Int32 → SX → Prop} {A U S L : Nat → Int32} {a b : Nat} {on : Int32} (ha : a < 12) (hb : b < 12) (h : ∀ L', (∀ c, c < 12 → L' c = il_fl (il_sw A a b on) U S 12 c) → post ((A a >>> (nI b &&& 31)) &&& 1) (il_sw A a b on, U, S, L')) : wpX_arc post (A, U, S, L) (nI a) (nI b) on := by
  unfold wpX_arc
  dsimp only
  refine wv_bXt ha (br_f (by decide) ?_)
  refine wv_bXt hb (br_f (by decide) ?_)
  refine wv_mA ha ?_
  exact wv_rX h
theorem xv_arc_n {post : Int32 → SX → Prop} {A U S L : Nat → Int32} {x y on : Int32} (hn : ¬ (il_B x ∧ il_B y)) (h : post (-1) (A, U, S, L)) : wpX_arc post (A, U, S, L) x y on := by
  unfold wpX_arc
  dsimp only
  by_cases hx : il_B x
  · have hy : ¬ il_B y := fun z => hn ⟨hx, z⟩
    obtain ⟨a, ha, rfl⟩ := hx
    refine wv_bXt ha (br_f (by decide) ?_)
    exact wv_bXf hy (br_t rfl h)
  · exact wv_bXf hx (br_t rfl h)
theorem yv_arc {post : Int32 → SY → Prop} {A U S L : Nat → Int32} {a b : Nat} {on : Int32} (ha : a < 12) (hb : b < 12) (h : post ((A a >>> (nI b &&& 31)) &&& 1) (il_sw A a b on, U, S, L)) : wpY_arc post (A, U, S, L) (nI a) (nI b) on := by
  unfold wpY_arc
  dsimp only
  refine wv_bYt ha (br_f (by decide) ?_)
  refine wv_bYt hb (br_f (by decide) ?_)
  rw [ib_cl ha]
  refine ⟨ib_in ha, nm_e (br_c (fun e => ⟨ib_in ha, ib_in ha, nm_e ?_⟩) (fun e => ⟨ib_in ha, ib_in ha, nm_e ?_⟩))⟩
  · rw [il_sw_0 e] at h
    exact h
  · rw [il_sw_1 e] at h
    exact h
theorem yv_arc_n {post : Int32 → SY → Prop} {A U S L : Nat → Int32} {x y on : Int32} (hn : ¬ (il_B x ∧ il_B y)) (h : post (-1) (A, U, S, L)) : wpY_arc post (A, U, S, L) x y on := by
  unfold wpY_arc
  dsimp only
  by_cases hx : il_B x
  · have hy : ¬ il_B y := fun z => hn ⟨hx, z⟩
    obtain ⟨a, ha, rfl⟩ := hx
    refine wv_bYt ha (br_f (by decide) ?_)
    exact wv_bYf hy (br_t rfl h)
  · exact wv_bYf hx (br_t rfl h)
theorem xv_use {post : Int32 → SX → Prop} {A U S L : Nat → Int32} {a b : Nat} {on : Int32} (ha : a < 12) (hb : b < 20) (h : ∀ L', (∀ c, c < 12 → L' c = il_fl A (il_sw U a b on) S 12 c) → post ((U a >>> (nI b &&& 31)) &&& 1) (A, il_sw U a b on, S, L')) : wpX_use post (A, U, S, L) (nI a) (nI b) on := by
  unfold wpX_use
  dsimp only
  refine wv_bXt ha (br_f (by decide) ?_)
  refine wv_vXt hb (br_f (by decide) ?_)
  refine wv_mU ha ?_
  exact wv_rX h
theorem xv_use_n {post : Int32 → SX → Prop} {A U S L : Nat → Int32} {x y on : Int32} (hn : ¬ (il_B x ∧ il_V y)) (h : post (-1) (A, U, S, L)) : wpX_use post (A, U, S, L) x y on := by
  unfold wpX_use
  dsimp only
  by_cases hx : il_B x
  · have hy : ¬ il_V y := fun z => hn ⟨hx, z⟩
    obtain ⟨a, ha, rfl⟩ := hx
    refine wv_bXt ha (br_f (by decide) ?_)
    exact wv_vXf hy (br_t rfl h)
  · exact wv_bXf hx (br_t rfl h)
theorem yv_use {post : Int32 → SY → Prop} {A U S L : Nat → Int32} {a b : Nat} {on : Int32} (ha : a < 12) (hb : b < 20) (h : post ((U a >>> (nI b &&& 31)) &&& 1) (A, il_sw U a b on, S, L)) : wpY_use post (A, U, S, L) (nI a) (nI b) on := by
  unfold wpY_use
  dsimp only
  refine wv_bYt ha (br_f (by decide) ?_)
  refine wv_vYt hb (br_f (by decide) ?_)
  rw [ib_cl ha]
  refine ⟨ib_in ha, nm_e (br_c (fun e => ⟨ib_in ha, ib_in ha, nm_e ?_⟩) (fun e => ⟨ib_in ha, ib_in ha, nm_e ?_⟩))⟩
  · rw [il_sw_0 e] at h
    exact h
  · rw [il_sw_1 e] at h
    exact h
theorem yv_use_n {post : Int32 → SY → Prop} {A U S L : Nat → Int32} {x y on : Int32} (hn : ¬ (il_B x ∧ il_V y)) (h : post (-1) (A, U, S, L)) : wpY_use post (A, U, S, L) x y on := by
  unfold wpY_use
  dsimp only
  by_cases hx : il_B x
  · have hy : ¬ il_V y := fun z => hn ⟨hx, z⟩
    obtain ⟨a, ha, rfl⟩ := hx
    refine wv_bYt ha (br_f (by decide) ?_)
    exact wv_vYf hy (br_t rfl h)
  · exact wv_bYf hx (br_t rfl h)
theorem xv_set {post : Int32 → SX → Prop} {A U S L : Nat → Int32} {a b : Nat} {on : Int32} (ha : a < 12) (hb : b < 20) (h : ∀ L', (∀ c, c < 12 → L' c = il_fl A U (il_sw S a b on) 12 c) → post ((S a >>> (nI b &&& 31)) &&& 1) (A, U, il_sw S a b on, L')) : wpX_set post (A, U, S, L) (nI a) (nI b) on := by
  unfold wpX_set
  dsimp only
  refine wv_bXt ha (br_f (by decide) ?_)
  refine wv_vXt hb (br_f (by decide) ?_)
  refine wv_mS ha ?_
  exact wv_rX h
theorem xv_set_n {post : Int32 → SX → Prop} {A U S L : Nat → Int32} {x y on : Int32} (hn : ¬ (il_B x ∧ il_V y)) (h : post (-1) (A, U, S, L)) : wpX_set post (A, U, S, L) x y on := by
  unfold wpX_set
  dsimp only
  by_cases hx : il_B x
  · have hy : ¬ il_V y := fun z => hn ⟨hx, z⟩
    obtain ⟨a, ha, rfl⟩ := hx
    refine wv_bXt ha (br_f (by decide) ?_)
    exact wv_vXf hy (br_t rfl h)
  · exact wv_bXf hx (br_t rfl h)
theorem yv_set {post : Int32 → SY → Prop} {A U S L : Nat → Int32} {a b : Nat} {on : Int32} (ha : a < 12) (hb : b < 20) (h : post ((S a >>> (nI b &&& 31)) &&& 1) (A, U, il_sw S a b on, L)) : wpY_set post (A, U, S, L) (nI a) (nI b) on := by
  unfold wpY_set
  dsimp only
  refine wv_bYt ha (br_f (by decide) ?_)
  refine wv_vYt hb (br_f (by decide) ?_)
  rw [ib_cl ha]
  refine ⟨ib_in ha, nm_e (br_c (fun e => ⟨ib_in ha, ib_in ha, nm_e ?_⟩) (fun e => ⟨ib_in ha, ib_in ha, nm_e ?_⟩))⟩
  · rw [il_sw_0 e] at h
    exact h
  · rw [il_sw_1 e] at h
    exact h
theorem yv_set_n {post : Int32 → SY → Prop} {A U S L : Nat → Int32} {x y on : Int32} (hn : ¬ (il_B x ∧ il_V y)) (h : post (-1) (A, U, S, L)) : wpY_set post (A, U, S, L) x y on := by
  unfold wpY_set
  dsimp only
  by_cases hx : il_B x
  · have hy : ¬ il_V y := fun z => hn ⟨hx, z⟩
    obtain ⟨a, ha, rfl⟩ := hx
    refine wv_bYt ha (br_f (by decide) ?_)
    exact wv_vYf hy (br_t rfl h)
  · exact wv_bYf hx (br_t rfl h)
theorem xv_has {post : Int32 → Prop} {A U S L : Nat → Int32} {a b : Nat} (ha : a < 12) (hb : b < 12) (h : post (if bt (A a) b = true then 1 else 0)) : wpX_hasArc post (A, U, S, L) (nI a) (nI b) := by
  unfold wpX_hasArc
  dsimp only
  refine wv_bXt ha (br_f (by decide) ?_)
  refine wv_bXt hb (br_f (by decide) ?_)
  rw [ib_cl ha]
  refine ⟨ib_in ha, wv_cX (by omega) (fun e => br_t rfl ?_) (fun e => br_f (by decide) ?_)⟩
  · rw [if_neg (by rw [e]; decide)] at h
    exact h
  · rw [if_pos e] at h
    exact h
theorem xv_has_n {post : Int32 → Prop} {A U S L : Nat → Int32} {x y : Int32} (hn : ¬ (il_B x ∧ il_B y)) (h : post 0) : wpX_hasArc post (A, U, S, L) x y := by
  unfold wpX_hasArc
  dsimp only
  by_cases hx : il_B x
  · have hy : ¬ il_B y := fun z => hn ⟨hx, z⟩
    obtain ⟨a, ha, rfl⟩ := hx
    refine wv_bXt ha (br_f (by decide) ?_)
    exact wv_bXf hy (br_t rfl h)
  · exact wv_bXf hx (br_t rfl h)
theorem yv_has {post : Int32 → Prop} {A U S L : Nat → Int32} {a b : Nat} (ha : a < 12) (hb : b < 12) (h : post (if bt (A a) b = true then 1 else 0)) : wpY_hasArc post (A, U, S, L) (nI a) (nI b) := by
  unfold wpY_hasArc
  dsimp only
  refine wv_bYt ha (br_f (by decide) ?_)
  refine wv_bYt hb (br_f (by decide) ?_)
  rw [ib_cl ha]
  refine ⟨ib_in ha, wv_hY (by omega) (fun e => br_t rfl ?_) (fun e => br_f (by decide) ?_)⟩
  · rw [if_neg (by rw [e]; decide)] at h
    exact h
  · rw [if_pos e] at h
    exact h
theorem yv_has_n {post : Int32 → Prop} {A U S L : Nat → Int32} {x y : Int32} (hn : ¬ (il_B x ∧ il_B y)) (h : post 0) : wpY_hasArc post (A, U, S, L) x y := by
  unfold wpY_hasArc
  dsimp only
  by_cases hx : il_B x
  · have hy : ¬ il_B y := fun z => hn ⟨hx, z⟩
    obtain ⟨a, ha, rfl⟩ := hx
    refine wv_bYt ha (br_f (by decide) ?_)
    exact wv_bYf hy (br_t rfl h)
  · exact wv_bYf hx (br_t rfl h)
theorem xv_blk {post : Int32 → SX → Prop} {A U S L : Nat → Int32} {a : Nat} {x y : Int32} (ha : a < 12) (hx : il_W x) (hy : il_W y) (h : ∀ L', (∀ c, c < 12 → L' c = il_fl A (upd U a x) (upd S a y) 12 c) → post 0 (A, upd U a x, upd S a y, L')) : wpX_block post (A, U, S, L) (nI a) x y := by
  unfold wpX_block
  dsimp only
  refine wv_bXt ha (br_f (by decide) ?_)
  refine wv_wXt hx (br_f (by decide) ?_)
  refine wv_wXt hy (br_f (by decide) ?_)
  rw [ib_cl ha]
  refine ⟨ib_in ha, nm_e ⟨ib_in ha, nm_e ?_⟩⟩
  exact wv_rX h
theorem xv_blk_n {post : Int32 → SX → Prop} {A U S L : Nat → Int32} {b x y : Int32} (hn : ¬ (il_B b ∧ il_W x ∧ il_W y)) (h : post (-1) (A, U, S, L)) : wpX_block post (A, U, S, L) b x y := by
  unfold wpX_block
  dsimp only
  by_cases hb : il_B b
  · by_cases hx : il_W x
    · have hy : ¬ il_W y := fun z => hn ⟨hb, hx, z⟩
      obtain ⟨a, ha, rfl⟩ := hb
      refine wv_bXt ha (br_f (by decide) ?_)
      refine wv_wXt hx (br_f (by decide) ?_)
      exact wv_wXf hy (br_t rfl h)
    · obtain ⟨a, ha, rfl⟩ := hb
      refine wv_bXt ha (br_f (by decide) ?_)
      exact wv_wXf hx (br_t rfl h)
  · exact wv_bXf hb (br_t rfl h)
theorem yv_blk {post : Int32 → SY → Prop} {A U S L : Nat → Int32} {a : Nat} {x y : Int32} (ha : a < 12) (hx : il_W x) (hy : il_W y) (h : post 0 (A, upd U a x, upd S a y, L)) : wpY_block post (A, U, S, L) (nI a) x y := by
  unfold wpY_block
  dsimp only
  refine wv_bYt ha (br_f (by decide) (br_f hx.1 (br_f hx.2 (br_f hy.1 (br_t (Int32.not_lt.mp hy.2) ?_)))))
  rw [ib_cl ha]
  exact ⟨ib_in ha, nm_e ⟨ib_in ha, nm_e h⟩⟩
theorem yv_blk_n {post : Int32 → SY → Prop} {A U S L : Nat → Int32} {b x y : Int32} (hn : ¬ (il_B b ∧ il_W x ∧ il_W y)) (h : post (-1) (A, U, S, L)) : wpY_block post (A, U, S, L) b x y := by
  unfold wpY_block
  dsimp only
  by_cases hb : il_B b
  · have hb' := hb
    obtain ⟨a, ha, rfl⟩ := hb
    refine wv_bYt ha (br_f (by decide) (br_c (fun _ => h) (fun x0 => br_c (fun _ => h) (fun x1 => br_c (fun _ => h) (fun y0 => br_c (fun y1 => ?_) (fun _ => h))))))
    exact absurd ⟨hb', ⟨x0, x1⟩, y0, Int32.not_lt.mpr y1⟩ hn
  · exact wv_bYf hb (br_t rfl h)
/-- cutOff's loop: the count and the arcs, the blocks below n done -/
def il_ct (b : Nat) (g0 : Int32) (A0 : Nat → Int32) : Nat → Int32 × (Nat → Int32)
  | 0 => (g0, A0)
  | n + 1 => ((il_ct b g0 A0 n).1 + (((il_ct b g0 A0 n).2 n >>> (nI b &&& 31)) &&& 1), il_sw (il_ct b g0 A0 n).2 n b 0)
def il_cA (A : Nat → Int32) (b : Nat) : Nat → Int32 := (il_ct b (nI (il_cn (bt (A b)) 20)) (upd A b 0) 12).2
def il_cG (A : Nat → Int32) (b : Nat) : Int32 := (il_ct b (nI (il_cn (bt (A b)) 20)) (upd A b 0) 12).1
theorem xv_cut {post : Int32 → SX → Prop} {A U S L : Nat → Int32} {b : Nat} (hb : b < 12) (h : ∀ L', (∀ c, c < 12 → L' c = il_fl (il_cA A b) U S 12 c) → post (il_cG A b) (il_cA A b, U, S, L')) : wpX_cutOff post (A, U, S, L) (nI b) := by
  unfold wpX_cutOff
  dsimp only
  refine wv_bXt hb (br_f (by decide) ?_)
  rw [ib_cl hb]
  refine ⟨ib_in hb, wv_sX ⟨ib_in hb, nm_e ?_⟩⟩
  refine ib_lo (fun n i s => wX_cutOff_28 post (nI b) n s.1 (nI i) s.2 U S L) (il_ct b (nI (il_cn (bt (A b)) 20)) (upd A b 0)) 12 ?_ ?_
  · intro n
    exact br_t ib_e12 (wv_rX h)
  · intro n i hi hn
    refine br_f (ib_12 hi) (wv_mA hi ?_)
    exact nm_e (nm_r (nI_1 i) hn)
theorem xv_cut_n {post : Int32 → SX → Prop} {A U S L : Nat → Int32} {x : Int32} (hn : ¬ il_B x) (h : post (-1) (A, U, S, L)) : wpX_cutOff post (A, U, S, L) x := by
  unfold wpX_cutOff
  dsimp only
  exact wv_bXf hn (br_t rfl h)
theorem yv_cut {post : Int32 → SY → Prop} {A U S L : Nat → Int32} {b : Nat} (hb : b < 12) (h : post (il_cG A b) (il_cA A b, U, S, L)) : wpY_cutOff post (A, U, S, L) (nI b) := by
  unfold wpY_cutOff
  dsimp only
  refine wv_bYt hb (br_f (by decide) ?_)
  rw [ib_cl hb]
  refine ⟨ib_in hb, wv_sY ⟨ib_in hb, nm_e ?_⟩⟩
  refine ib_lo (fun n i s => wY_cutOff_30 post (nI b) n s.1 (nI i) s.2 U S L) (il_ct b (nI (il_cn (bt (A b)) 20)) (upd A b 0)) 12 ?_ ?_
  · intro n
    exact br_t ib_e12 h
  · intro n i hi hn
    have e0 := ib_bit ((il_ct b (nI (il_cn (bt (A b)) 20)) (upd A b 0) i).2 i) (i := b) (by omega)
    have e1 : il_ct b (nI (il_cn (bt (A b)) 20)) (upd A b 0) (i + 1) = ((il_ct b (nI (il_cn (bt (A b)) 20)) (upd A b 0) i).1 + (((il_ct b (nI (il_cn (bt (A b)) 20)) (upd A b 0) i).2 i >>> (nI b &&& 31)) &&& 1), il_sw (il_ct b (nI (il_cn (bt (A b)) 20)) (upd A b 0) i).2 i b 0) := rfl
    rw [e1, e0, il_sw_0 rfl] at hn
    generalize il_ct b (nI (il_cn (bt (A b)) 20)) (upd A b 0) i = s at hn
    refine br_f (ib_12 hi) ⟨ib_in hi, ?_⟩
    rw [ib_cl hi]
    refine wv_hY (by omega) (fun e => br_t rfl ?_) (fun e => br_f (by decide) ?_)
    · rw [if_neg (by rw [e]; decide), Int32.add_zero] at hn
      unfold wY_cutOff_57
      rw [ib_cl hi]
      exact ⟨ib_in hi, ib_in hi, nm_e (nm_r (nI_1 i) hn)⟩
    · rw [if_pos e] at hn
      unfold wY_cutOff_57
      rw [ib_cl hi]
      exact ⟨ib_in hi, ib_in hi, nm_e (nm_r (nI_1 i) hn)⟩
theorem yv_cut_n {post : Int32 → SY → Prop} {A U S L : Nat → Int32} {x : Int32} (hn : ¬ il_B x) (h : post (-1) (A, U, S, L)) : wpY_cutOff post (A, U, S, L) x := by
  unfold wpY_cutOff
  dsimp only
  exact wv_bYf hn (br_t rfl h)
def il_tA (A : Nat → Int32) (b c : Nat) : Nat → Int32 := upd (upd A b (A b ||| A c)) c 0
def il_tG (A : Nat → Int32) (b c : Nat) : Int32 := nI (il_cn (bt (A c &&& (A b ^^^ (-1)))) 20)
theorem xv_tk {post : Int32 → SX → Prop} {A U S L : Nat → Int32} {b c : Nat} (hb : b < 12) (hc : c < 12) (hn : b ≠ c) (h : ∀ L', (∀ d, d < 12 → L' d = il_fl (il_tA A b c) U S 12 d) → post (il_tG A b c) (il_tA A b c, U, S, L')) : wpX_takeOver post (A, U, S, L) (nI b) (nI c) := by
  unfold wpX_takeOver
  dsimp only
  refine wv_bXt hb (br_f (by decide) ?_)
  refine wv_bXt hc (br_f (by decide) ?_)
  refine br_f (fun z => hn ((nI_eq (by omega) (by omega)).mp z)) ?_
  rw [ib_cl hb, ib_cl hc]
  refine ⟨ib_in hc, ib_in hb, wv_sX ⟨ib_in hb, ib_in hc, ib_in hb, nm_e ⟨ib_in hc, nm_e ?_⟩⟩⟩
  exact wv_rX h
theorem xv_tk_n {post : Int32 → SX → Prop} {A U S L : Nat → Int32} {x y : Int32} (hn : ¬ (il_B x ∧ il_B y ∧ x ≠ y)) (h : post (-1) (A, U, S, L)) : wpX_takeOver post (A, U, S, L) x y := by
  unfold wpX_takeOver
  dsimp only
  by_cases hx : il_B x
  · by_cases hy : il_B y
    · have e : x = y := Classical.byContradiction (fun z => hn ⟨hx, hy, z⟩)
      subst e
      obtain ⟨a, ha, rfl⟩ := hx
      refine wv_bXt ha (br_f (by decide) ?_)
      refine wv_bXt ha (br_f (by decide) ?_)
      exact br_t rfl h
    · obtain ⟨a, ha, rfl⟩ := hx
      refine wv_bXt ha (br_f (by decide) ?_)
      exact wv_bXf hy (br_t rfl h)
  · exact wv_bXf hx (br_t rfl h)
theorem yv_tk {post : Int32 → SY → Prop} {A U S L : Nat → Int32} {b c : Nat} (hb : b < 12) (hc : c < 12) (hn : b ≠ c) (h : post (il_tG A b c) (il_tA A b c, U, S, L)) : wpY_takeOver post (A, U, S, L) (nI b) (nI c) := by
  unfold wpY_takeOver
  dsimp only
  refine wv_bYt hb (br_f (by decide) ?_)
  refine wv_bYt hc (br_f (by decide) ?_)
  refine br_f (fun z => hn ((nI_eq (by omega) (by omega)).mp z)) ?_
  rw [ib_cl hb, ib_cl hc]
  exact ⟨ib_in hc, ib_in hb, wv_sY ⟨ib_in hb, ib_in hc, ib_in hb, nm_e ⟨ib_in hc, nm_e h⟩⟩⟩
theorem yv_tk_n {post : Int32 → SY → Prop} {A U S L : Nat → Int32} {x y : Int32} (hn : ¬ (il_B x ∧ il_B y ∧ x ≠ y)) (h : post (-1) (A, U, S, L)) : wpY_takeOver post (A, U, S, L) x y := by
  unfold wpY_takeOver
  dsimp only
  by_cases hx : il_B x
  · by_cases hy : il_B y
    · have e : x = y := Classical.byContradiction (fun z => hn ⟨hx, hy, z⟩)
      subst e
      obtain ⟨a, ha, rfl⟩ := hx
      refine wv_bYt ha (br_f (by decide) ?_)
      refine wv_bYt ha (br_f (by decide) ?_)
      exact br_t rfl h
    · obtain ⟨a, ha, rfl⟩ := hx
      refine wv_bYt ha (br_f (by decide) ?_)
      exact wv_bYf hy (br_t rfl h)
  · exact wv_bYf hx (br_t rfl h)
end
section
/-! the asking methods: X reads its kept sets, Y spreads first -/
theorem xv_li {post : Int32 → Prop} {A U S L : Nat → Int32} {b : Nat} (hb : b < 12) (h : post (L b)) : wpX_liveIn post (A, U, S, L) (nI b) := by
  unfold wpX_liveIn
  dsimp only
  refine wv_bXt hb (br_f (by decide) ?_)
  rw [ib_cl hb]
  exact ⟨ib_in hb, h⟩
theorem yv_li {post : Int32 → SY → Prop} {A U S L : Nat → Int32} {b : Nat} (hb : b < 12) (h : ∀ L', (∀ c, c < 12 → L' c = il_fl A U S 12 c) → post (L' b) (A, U, S, L')) : wpY_liveIn post (A, U, S, L) (nI b) := by
  unfold wpY_liveIn
  dsimp only
  refine wv_bYt hb (br_f (by decide) ?_)
  refine wv_rY (fun L' hL => ?_)
  dsimp only
  rw [ib_cl hb]
  exact ⟨ib_in hb, h L' hL⟩
theorem xv_lo {post : Int32 → Prop} {A U S L : Nat → Int32} {b : Nat} (hb : b < 12) (h : post (il_og (bt (A b)) L 12)) : wpX_liveOut post (A, U, S, L) (nI b) := by
  unfold wpX_liveOut
  dsimp only
  refine wv_bXt hb (br_f (by decide) ?_)
  exact wv_eX hb h
theorem yv_lo {post : Int32 → SY → Prop} {A U S L : Nat → Int32} {b : Nat} (hb : b < 12) (h : ∀ L', (∀ c, c < 12 → L' c = il_fl A U S 12 c) → post (il_og (bt (A b)) L' 12) (A, U, S, L')) : wpY_liveOut post (A, U, S, L) (nI b) := by
  unfold wpY_liveOut
  dsimp only
  refine wv_bYt hb (br_f (by decide) ?_)
  refine wv_rY (fun L' hL => ?_)
  exact wv_eY hb (h L' hL)
theorem xv_lb {post : Int32 → Prop} {A U S L : Nat → Int32} {v : Nat} (hv : v < 20) (h : post (il_bw L v 12)) : wpX_liveBlocks post (A, U, S, L) (nI v) := by
  unfold wpX_liveBlocks
  dsimp only
  refine wv_vXt hv (br_f (by decide) ?_)
  exact wv_wXl hv h
theorem yv_lb {post : Int32 → SY → Prop} {A U S L : Nat → Int32} {v : Nat} (hv : v < 20) (h : ∀ L', (∀ c, c < 12 → L' c = il_fl A U S 12 c) → post (il_bw L' v 12) (A, U, S, L')) : wpY_liveBlocks post (A, U, S, L) (nI v) := by
  unfold wpY_liveBlocks
  dsimp only
  refine wv_vYt hv (br_f (by decide) ?_)
  refine wv_rY (fun L' hL => ?_)
  have h' := h L' hL
  refine ib_lo (fun n i s => wY_liveBlocks_18 post (nI v) A U S L' n s (nI i)) (il_bw L' v) 12 ?_ ?_
  · intro n
    exact br_t ib_e12 h'
  · intro n i hi hn
    refine br_f (ib_12 hi) ⟨ib_in hi, ?_⟩
    rw [ib_cl hi]
    refine wv_hY (by omega) (fun e => br_t rfl (nm_r (nI_1 i) ?_)) (fun e => br_f (by decide) (nm_r (il_og_t (p := fun b => bt (L' b) v) e).symm (nm_r (nI_1 i) hn)))
    have z : il_bw L' v (i + 1) = il_bw L' v i := il_og_f (p := fun b => bt (L' b) v) e
    rw [z] at hn
    exact hn
def il_id (A S L : Nat → Int32) (b : Nat) : Nat := il_cn (bt (S b &&& (il_og (bt (A b)) L 12 ^^^ (-1)))) 20
theorem xv_id {post : Int32 → Prop} {A U S L : Nat → Int32} (h : post (nI (il_sm (il_id A S L) 12))) : wpX_idleSets post (A, U, S, L) := by
  refine ib_lo (fun n i s => wX_idleSets_4 post A U S L n s (nI i)) (fun i => nI (il_sm (il_id A S L) i)) 12 ?_ ?_
  · intro n
    exact br_t ib_e12 h
  · intro n i hi hn
    refine br_f (ib_12 hi) (wv_eX hi ⟨ib_in hi, ?_⟩)
    rw [ib_cl hi]
    exact wv_sX (nm_r (nI_add _ _) (nm_r (nI_1 i) hn))
theorem yv_id {post : Int32 → SY → Prop} {A U S L : Nat → Int32} (h : ∀ L', (∀ c, c < 12 → L' c = il_fl A U S 12 c) → post (nI (il_sm (il_id A S L') 12)) (A, U, S, L')) : wpY_idleSets post (A, U, S, L) := by
  unfold wpY_idleSets
  dsimp only
  refine wv_rY (fun L' hL => ?_)
  have h' := h L' hL
  refine ib_lo (fun n i s => wY_idleSets_8 post A U S L' n s (nI i)) (fun i => nI (il_sm (il_id A S L') i)) 12 ?_ ?_
  · intro n
    exact br_t ib_e12 h'
  · intro n i hi hn
    refine br_f (ib_12 hi) (wv_eY hi ⟨ib_in hi, ?_⟩)
    rw [ib_cl hi]
    exact wv_sY (nm_r (nI_add _ _) (nm_r (nI_1 i) hn))
def il_pr (L : Nat → Int32) : Nat → Int32 := il_mx (fun b => nI (il_cn (bt (L b)) 20))
theorem il_pr_t {L : Nat → Int32} {i : Nat} (h : nI (il_cn (bt (L i)) 20) ≤ il_pr L i) : il_pr L (i + 1) = il_pr L i := if_pos h
theorem il_pr_f {L : Nat → Int32} {i : Nat} (h : ¬ nI (il_cn (bt (L i)) 20) ≤ il_pr L i) : il_pr L (i + 1) = nI (il_cn (bt (L i)) 20) := if_neg h
theorem xv_pr {post : Int32 → Prop} {A U S L : Nat → Int32} (h : post (il_pr L 12)) : wpX_pressure post (A, U, S, L) := by
  refine ib_lo (fun n i s => wX_pressure_4 post A U S L n s (nI i)) (il_pr L) 12 ?_ ?_
  · intro n
    exact br_t ib_e12 h
  · intro n i hi hn
    refine br_f (ib_12 hi) ⟨ib_in hi, ?_⟩
    rw [ib_cl hi]
    refine wv_sX (br_c (fun e => nm_r (nI_1 i) ?_) (fun e => nm_r (nI_1 i) ?_))
    · rw [il_pr_t e] at hn
      exact hn
    · rw [il_pr_f e] at hn
      exact hn
theorem yv_pr {post : Int32 → SY → Prop} {A U S L : Nat → Int32} (h : ∀ L', (∀ c, c < 12 → L' c = il_fl A U S 12 c) → post (il_pr L' 12) (A, U, S, L')) : wpY_pressure post (A, U, S, L) := by
  unfold wpY_pressure
  dsimp only
  refine wv_rY (fun L' hL => ?_)
  have h' := h L' hL
  refine ib_lo (fun n i s => wY_pressure_8 post A U S L' n s (nI i)) (il_pr L') 12 ?_ ?_
  · intro n
    exact br_t ib_e12 h'
  · intro n i hi hn
    refine br_f (ib_12 hi) ⟨ib_in hi, ?_⟩
    rw [ib_cl hi]
    refine wv_sY (br_c (fun e => nm_r (nI_1 i) ?_) (fun e => nm_r (nI_1 i) ?_))
    · rw [il_pr_t e] at hn
      exact hn
    · rw [il_pr_f e] at hn
      exact hn
theorem xv_re {post : Int32 → Prop} {A U S L : Nat → Int32} {t v : Nat} (ht : t < 12) (hv : v < 20) (h : post (il_re A S t v 12)) : wpX_reaching post (A, U, S, L) (nI t) (nI v) := by
  unfold wpX_reaching
  dsimp only
  refine wv_bXt ht (br_f (by decide) ?_)
  refine wv_vXt hv (br_f (by decide) ?_)
  refine wv_wXs hv ?_
  refine wv_bb ht (fun x hx => ?_)
  rw [il_re_x hx]
  exact h
theorem xv_re_n {post : Int32 → Prop} {A U S L : Nat → Int32} {x y : Int32} (hn : ¬ (il_B x ∧ il_V y)) (h : post (-1)) : wpX_reaching post (A, U, S, L) x y := by
  unfold wpX_reaching
  dsimp only
  by_cases hx : il_B x
  · have hy : ¬ il_V y := fun z => hn ⟨hx, z⟩
    obtain ⟨a, ha, rfl⟩ := hx
    refine wv_bXt ha (br_f (by decide) ?_)
    exact wv_vXf hy (br_t rfl h)
  · exact wv_bXf hx (br_t rfl h)
theorem yv_re {post : Int32 → Prop} {A U S L : Nat → Int32} {t v : Nat} (ht : t < 12) (hv : v < 20) (h : post (il_re A S t v 12)) : wpY_reaching post (A, U, S, L) (nI t) (nI v) := by
  unfold wpY_reaching
  dsimp only
  refine wv_bYt ht (br_f (by decide) ?_)
  refine wv_vYt hv (br_f (by decide) ?_)
  exact wv_r23 ht hv h
theorem yv_re_n {post : Int32 → Prop} {A U S L : Nat → Int32} {x y : Int32} (hn : ¬ (il_B x ∧ il_V y)) (h : post (-1)) : wpY_reaching post (A, U, S, L) x y := by
  unfold wpY_reaching
  dsimp only
  by_cases hx : il_B x
  · have hy : ¬ il_V y := fun z => hn ⟨hx, z⟩
    obtain ⟨a, ha, rfl⟩ := hx
    refine wv_bYt ha (br_f (by decide) ?_)
    exact wv_vYf hy (br_t rfl h)
  · exact wv_bYf hx (br_t rfl h)
theorem wv_c15 {post : Int32 → Prop} {J : Int32 → Int32 → Prop} {A U S L : Nat → Int32} {v : Nat} {x1 : Int32} (hv : v < 20) (h : J (x1 + nI (il_cX L v)) (nI (v + 1))) : ∃ n, wX_crowded_15 post J x1 (nI v) A U S L n 0 0 := by
  refine ib_lo (fun n i s => wX_crowded_15 post J x1 (nI v) A U S L n s (nI i)) (il_og (fun b => bt (L b) v) L) 12 ?_ ?_
  · intro n
    refine br_t ib_e12 ?_
    rw [nI_1 v]
    exact wv_sX (nm_e (nm_e h))
  · intro n i hi hn
    refine br_f (ib_12 hi) ⟨ib_in hi, ?_⟩
    rw [ib_cl hi]
    refine wv_cX (by omega) (fun e => br_t rfl (nm_r (nI_1 i) ?_)) (fun e => br_f (by decide) ⟨ib_in hi, nm_r (il_og_t (p := fun b => bt (L b) v) e).symm (nm_r (nI_1 i) hn)⟩)
    rw [il_og_f (p := fun b => bt (L b) v) e] at hn
    exact hn
theorem xv_cr {post : Int32 → Prop} {A U S L : Nat → Int32} (h : post (nI (il_sm (il_cX L) 20))) : wpX_crowded post (A, U, S, L) := by
  refine ib_lo (fun n i s => wX_crowded_4 post A U S L n s (nI i)) (fun i => nI (il_sm (il_cX L) i)) 20 ?_ ?_
  · intro n
    exact br_t ib_e20 h
  · intro n i hi hn
    refine br_f (ib_20 hi) (wv_c15 hi ?_)
    rw [nI_add]
    exact hn
theorem wv_bs {post : Int32 → Prop} {A U S L : Nat → Int32} {v : Nat} (hv : v < 20) (h : post (il_cw L v &&& (((1 : Int32) <<< (nI v &&& 31)) ^^^ (-1)))) : wpY_besides post (A, U, S, L) (nI v) := by
  refine ib_lo (fun n i s => wY_besides_4 post (nI v) A U S L n s (nI i)) (il_og (fun b => bt (L b) v) L) 12 ?_ ?_
  · intro n
    exact br_t ib_e12 h
  · intro n i hi hn
    refine br_f (ib_12 hi) ⟨ib_in hi, ?_⟩
    rw [ib_cl hi]
    refine wv_hY (by omega) (fun e => br_t rfl (nm_r (nI_1 i) ?_)) (fun e => br_f (by decide) ⟨ib_in hi, nm_r (il_og_t (p := fun b => bt (L b) v) e).symm (nm_r (nI_1 i) hn)⟩)
    rw [il_og_f (p := fun b => bt (L b) v) e] at hn
    exact hn
theorem yv_cr {post : Int32 → SY → Prop} {A U S L : Nat → Int32} (h : ∀ L', (∀ c, c < 12 → L' c = il_fl A U S 12 c) → post (nI (il_sm (il_cY L') 20) / 2) (A, U, S, L')) : wpY_crowded post (A, U, S, L) := by
  unfold wpY_crowded
  dsimp only
  refine wv_rY (fun L' hL => ?_)
  have h' := h L' hL
  refine ib_lo (fun n i s => wY_crowded_8 post A U S L' n s (nI i)) (fun i => nI (il_sm (il_cY L') i)) 20 ?_ ?_
  · intro n
    exact br_t ib_e20 ⟨by decide, h'⟩
  · intro n i hi hn
    exact br_f (ib_20 hi) (wv_bs hi (wv_sY (nm_r (nI_add _ _) (nm_r (nI_1 i) hn))))
end
section
/-- both sides keep the same arcs, uses and sets; X's kept sets are the twelfth level of the liveness equations; no use lies above variable 19. Y's own array is worked out anew at every ask -/
def i_Rel (_ : Nat) (u : SX) (v : SY) : Prop := ∃ A U S L M : Nat → Int32, u = (A, U, S, L) ∧ v = (A, U, S, M) ∧ (∀ c, c < 12 → L c = il_fl A U S 12 c) ∧ (∀ c, c < 12 → ∀ i, 20 ≤ i → bt (U c) i = false)
theorem i_up {k : Nat} {u : SX} {v : SY} (h : i_Rel k u v) : i_Rel (k + 4) u v := h
theorem i_vc0 : wpX_init (fun u => wpY_init (fun v => i_Rel 0 u v)) :=
  ⟨_, _, _, _, _, rfl, rfl, fun c _ => (il_fl_0 (fun _ => rfl) 12 c).symm, fun _ _ i _ => b_0 i⟩
theorem ow_swU {U : Nat → Int32} {a b : Nat} {on : Int32} (hb : b < 20) (hU : ∀ c, c < 12 → ∀ i, 20 ≤ i → bt (U c) i = false) : ∀ c, c < 12 → ∀ i, 20 ≤ i → bt (il_sw U a b on c) i = false := by
  intro c hc i hi
  by_cases q : i < 32
  · by_cases e : c = a
    · subst e
      by_cases z : on = 0
      · rw [il_sw_0 z, pk_us, b_and, hU c hc i hi]
        rfl
      · rw [il_sw_1 z, pk_us, b_or, hU c hc i hi, ib_shl (by omega) q, decide_eq_false (by omega)]
        rfl
    · unfold il_sw
      rw [pk_un e]
      exact hU c hc i hi
  · exact b_big (by omega)
theorem ow_W {x : Int32} (h : il_W x) {i : Nat} (hi : 20 ≤ i) : bt x i = false := by
  obtain ⟨j, hj, rfl⟩ := nI_of h.1
  have h2 : ¬ nI 1048575 < nI j := h.2
  rw [nI_ltI (by decide) hj] at h2
  exact ib_nI (n := 20) (by omega) hi
theorem ow_updU {U : Nat → Int32} {a : Nat} {x : Int32} (hx : il_W x) (hU : ∀ c, c < 12 → ∀ i, 20 ≤ i → bt (U c) i = false) : ∀ c, c < 12 → ∀ i, 20 ≤ i → bt (upd U a x c) i = false := by
  intro c hc i hi
  by_cases e : c = a
  · subst e
    rw [pk_us]
    exact ow_W hx hi
  · rw [pk_un e]
    exact hU c hc i hi
theorem i_vc_arc {k : Nat} {u : SX} {v : SY} (I : i_Rel k u v) (hk : k + 4 ≤ 2048) (v1 : Int32) (v2 : Int32) (v3 : Int32) : wpX_arc (fun r u' => wpY_arc (fun r' v' => r' = r ∧ i_Rel (k + 4) u' v') v v1 v2 v3) u v1 v2 v3 := by
  obtain ⟨A, U, S, L, M, rfl, rfl, hL, hU⟩ := I
  by_cases hn : il_B v1 ∧ il_B v2
  · obtain ⟨⟨a, ha, rfl⟩, b, hb, rfl⟩ := hn
    exact xv_arc ha hb (fun L' hL' => yv_arc ha hb ⟨rfl, _, _, _, _, _, rfl, rfl, hL', hU⟩)
  · exact xv_arc_n hn (yv_arc_n hn ⟨rfl, _, _, _, _, _, rfl, rfl, hL, hU⟩)
theorem i_vc_hasArc {k : Nat} {u : SX} {v : SY} (I : i_Rel k u v) (hk : k + 4 ≤ 2048) (v1 : Int32) (v2 : Int32) : wpX_hasArc (fun r => wpY_hasArc (fun r' => r' = r ∧ i_Rel (k + 4) u v) v v1 v2) u v1 v2 := by
  have I' : i_Rel (k + 4) u v := I
  obtain ⟨A, U, S, L, M, rfl, rfl, hL, hU⟩ := I
  by_cases hn : il_B v1 ∧ il_B v2
  · obtain ⟨⟨a, ha, rfl⟩, b, hb, rfl⟩ := hn
    exact xv_has ha hb (yv_has ha hb ⟨rfl, I'⟩)
  · exact xv_has_n hn (yv_has_n hn ⟨rfl, I'⟩)
theorem i_vc_use {k : Nat} {u : SX} {v : SY} (I : i_Rel k u v) (hk : k + 4 ≤ 2048) (v1 : Int32) (v2 : Int32) (v3 : Int32) : wpX_use (fun r u' => wpY_use (fun r' v' => r' = r ∧ i_Rel (k + 4) u' v') v v1 v2 v3) u v1 v2 v3 := by
  obtain ⟨A, U, S, L, M, rfl, rfl, hL, hU⟩ := I
  by_cases hn : il_B v1 ∧ il_V v2
  · obtain ⟨⟨a, ha, rfl⟩, b, hb, rfl⟩ := hn
    exact xv_use ha hb (fun L' hL' => yv_use ha hb ⟨rfl, _, _, _, _, _, rfl, rfl, hL', ow_swU hb hU⟩)
  · exact xv_use_n hn (yv_use_n hn ⟨rfl, _, _, _, _, _, rfl, rfl, hL, hU⟩)
theorem i_vc_set {k : Nat} {u : SX} {v : SY} (I : i_Rel k u v) (hk : k + 4 ≤ 2048) (v1 : Int32) (v2 : Int32) (v3 : Int32) : wpX_set (fun r u' => wpY_set (fun r' v' => r' = r ∧ i_Rel (k + 4) u' v') v v1 v2 v3) u v1 v2 v3 := by
  obtain ⟨A, U, S, L, M, rfl, rfl, hL, hU⟩ := I
  by_cases hn : il_B v1 ∧ il_V v2
  · obtain ⟨⟨a, ha, rfl⟩, b, hb, rfl⟩ := hn
    exact xv_set ha hb (fun L' hL' => yv_set ha hb ⟨rfl, _, _, _, _, _, rfl, rfl, hL', hU⟩)
  · exact xv_set_n hn (yv_set_n hn ⟨rfl, _, _, _, _, _, rfl, rfl, hL, hU⟩)
theorem i_vc_block {k : Nat} {u : SX} {v : SY} (I : i_Rel k u v) (hk : k + 4 ≤ 2048) (v1 : Int32) (v2 : Int32) (v3 : Int32) : wpX_block (fun r u' => wpY_block (fun r' v' => r' = r ∧ i_Rel (k + 4) u' v') v v1 v2 v3) u v1 v2 v3 := by
  obtain ⟨A, U, S, L, M, rfl, rfl, hL, hU⟩ := I
  by_cases hn : il_B v1 ∧ il_W v2 ∧ il_W v3
  · obtain ⟨⟨a, ha, rfl⟩, h2, h3⟩ := hn
    exact xv_blk ha h2 h3 (fun L' hL' => yv_blk ha h2 h3 ⟨rfl, _, _, _, _, _, rfl, rfl, hL', ow_updU h2 hU⟩)
  · exact xv_blk_n hn (yv_blk_n hn ⟨rfl, _, _, _, _, _, rfl, rfl, hL, hU⟩)
theorem i_vc_cutOff {k : Nat} {u : SX} {v : SY} (I : i_Rel k u v) (hk : k + 4 ≤ 2048) (v1 : Int32) : wpX_cutOff (fun r u' => wpY_cutOff (fun r' v' => r' = r ∧ i_Rel (k + 4) u' v') v v1) u v1 := by
  obtain ⟨A, U, S, L, M, rfl, rfl, hL, hU⟩ := I
  by_cases hn : il_B v1
  · obtain ⟨a, ha, rfl⟩ := hn
    exact xv_cut ha (fun L' hL' => yv_cut ha ⟨rfl, _, _, _, _, _, rfl, rfl, hL', hU⟩)
  · exact xv_cut_n hn (yv_cut_n hn ⟨rfl, _, _, _, _, _, rfl, rfl, hL, hU⟩)
theorem i_vc_takeOver {k : Nat} {u : SX} {v : SY} (I : i_Rel k u v) (hk : k + 4 ≤ 2048) (v1 : Int32) (v2 : Int32) : wpX_takeOver (fun r u' => wpY_takeOver (fun r' v' => r' = r ∧ i_Rel (k + 4) u' v') v v1 v2) u v1 v2 := by
  obtain ⟨A, U, S, L, M, rfl, rfl, hL, hU⟩ := I
  by_cases hn : il_B v1 ∧ il_B v2 ∧ v1 ≠ v2
  · obtain ⟨⟨a, ha, rfl⟩, ⟨b, hb, rfl⟩, h3⟩ := hn
    have h3' : a ≠ b := fun z => h3 (congrArg nI z)
    exact xv_tk ha hb h3' (fun L' hL' => yv_tk ha hb h3' ⟨rfl, _, _, _, _, _, rfl, rfl, hL', hU⟩)
  · exact xv_tk_n hn (yv_tk_n hn ⟨rfl, _, _, _, _, _, rfl, rfl, hL, hU⟩)
theorem i_vc_liveIn {k : Nat} {u : SX} {v : SY} (I : i_Rel k u v) (hk : k + 4 ≤ 2048) (v1 : Int32) : wpX_liveIn (fun r => wpY_liveIn (fun r' v' => r' = r ∧ i_Rel (k + 4) u v') v v1) u v1 := by
  obtain ⟨A, U, S, L, M, rfl, rfl, hL, hU⟩ := I
  by_cases hn : il_B v1
  · obtain ⟨a, ha, rfl⟩ := hn
    exact xv_li ha (yv_li ha (fun M' hM => ⟨(hM a ha).trans (hL a ha).symm, _, _, _, _, _, rfl, rfl, hL, hU⟩))
  · unfold wpX_liveIn wpY_liveIn
    dsimp only
    exact wv_bXf hn (br_t rfl (wv_bYf hn (br_t rfl ⟨rfl, _, _, _, _, _, rfl, rfl, hL, hU⟩)))
theorem i_vc_liveOut {k : Nat} {u : SX} {v : SY} (I : i_Rel k u v) (hk : k + 4 ≤ 2048) (v1 : Int32) : wpX_liveOut (fun r => wpY_liveOut (fun r' v' => r' = r ∧ i_Rel (k + 4) u v') v v1) u v1 := by
  obtain ⟨A, U, S, L, M, rfl, rfl, hL, hU⟩ := I
  by_cases hn : il_B v1
  · obtain ⟨a, ha, rfl⟩ := hn
    exact xv_lo ha (yv_lo ha (fun M' hM => ⟨il_og_c 12 (fun _ _ => rfl) (fun c hc => (hM c hc).trans (hL c hc).symm), _, _, _, _, _, rfl, rfl, hL, hU⟩))
  · unfold wpX_liveOut wpY_liveOut
    dsimp only
    exact wv_bXf hn (br_t rfl (wv_bYf hn (br_t rfl ⟨rfl, _, _, _, _, _, rfl, rfl, hL, hU⟩)))
theorem i_vc_liveBlocks {k : Nat} {u : SX} {v : SY} (I : i_Rel k u v) (hk : k + 4 ≤ 2048) (v1 : Int32) : wpX_liveBlocks (fun r => wpY_liveBlocks (fun r' v' => r' = r ∧ i_Rel (k + 4) u v') v v1) u v1 := by
  obtain ⟨A, U, S, L, M, rfl, rfl, hL, hU⟩ := I
  by_cases hn : il_V v1
  · obtain ⟨a, ha, rfl⟩ := hn
    exact xv_lb ha (yv_lb ha (fun M' hM => ⟨il_og_c 12 (fun c hc => by rw [hM c hc, hL c hc]) (fun _ _ => rfl), _, _, _, _, _, rfl, rfl, hL, hU⟩))
  · unfold wpX_liveBlocks wpY_liveBlocks
    dsimp only
    exact wv_vXf hn (br_t rfl (wv_vYf hn (br_t rfl ⟨rfl, _, _, _, _, _, rfl, rfl, hL, hU⟩)))
theorem i_vc_idleSets {k : Nat} {u : SX} {v : SY} (I : i_Rel k u v) (hk : k + 4 ≤ 2048) : wpX_idleSets (fun r => wpY_idleSets (fun r' v' => r' = r ∧ i_Rel (k + 4) u v') v) u := by
  obtain ⟨A, U, S, L, M, rfl, rfl, hL, hU⟩ := I
  refine xv_id (yv_id (fun M' hM => ⟨congrArg nI (il_sm_c 12 (fun b hb => ?_)), _, _, _, _, _, rfl, rfl, hL, hU⟩))
  unfold il_id
  rw [il_og_c (f := M') (g := L) 12 (fun _ _ => rfl) (fun c hc => (hM c hc).trans (hL c hc).symm)]
theorem i_vc_pressure {k : Nat} {u : SX} {v : SY} (I : i_Rel k u v) (hk : k + 4 ≤ 2048) : wpX_pressure (fun r => wpY_pressure (fun r' v' => r' = r ∧ i_Rel (k + 4) u v') v) u := by
  obtain ⟨A, U, S, L, M, rfl, rfl, hL, hU⟩ := I
  exact xv_pr (yv_pr (fun M' hM => ⟨il_mx_c 12 (fun b hb => by rw [hM b hb, hL b hb]), _, _, _, _, _, rfl, rfl, hL, hU⟩))
theorem i_vc_reaching {k : Nat} {u : SX} {v : SY} (I : i_Rel k u v) (hk : k + 4 ≤ 2048) (v1 : Int32) (v2 : Int32) : wpX_reaching (fun r => wpY_reaching (fun r' => r' = r ∧ i_Rel (k + 4) u v) v v1 v2) u v1 v2 := by
  have I' : i_Rel (k + 4) u v := I
  obtain ⟨A, U, S, L, M, rfl, rfl, hL, hU⟩ := I
  by_cases hn : il_B v1 ∧ il_V v2
  · obtain ⟨⟨a, ha, rfl⟩, b, hb, rfl⟩ := hn
    exact xv_re ha hb (yv_re ha hb ⟨rfl, I'⟩)
  · exact xv_re_n hn (yv_re_n hn ⟨rfl, I'⟩)
theorem i_vc_crowded {k : Nat} {u : SX} {v : SY} (I : i_Rel k u v) (hk : k + 4 ≤ 2048) : wpX_crowded (fun r => wpY_crowded (fun r' v' => r' = r ∧ i_Rel (k + 4) u v') v) u := by
  obtain ⟨A, U, S, L, M, rfl, rfl, hL, hU⟩ := I
  refine xv_cr (yv_cr (fun M' hM => ⟨?_, _, _, _, _, _, rfl, rfl, hL, hU⟩))
  have e : ∀ c, c < 12 → M' c = L c := fun c hc => (hM c hc).trans (hL c hc).symm
  have e2 : ∀ v, il_cw M' v = il_cw L v := fun v => il_og_c 12 (fun c hc => by rw [e c hc]) e
  have e3 : il_sm (il_cY M') 20 = il_sm (il_cY L) 20 := il_sm_c 20 (fun v _ => by unfold il_cY; rw [e2 v])
  rw [e3]
  refine il_crowd (fun b hb i hi => ?_)
  by_cases q : i < 32
  · rw [hL b hb]
    exact il_fl_hi q (fun c hc => hU c hc i hi) 12 b hb
  · exact b_big (by omega)
end
