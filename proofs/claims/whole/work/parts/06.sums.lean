/-! sums: idleSets, pressure, crowded -/
theorem il_sm_a {f g : Nat → Nat} : ∀ n, il_sm (fun i => f i + g i) n = il_sm f n + il_sm g n := by
  intro n
  induction n with
  | zero => rfl
  | succ n ih =>
    show il_sm (fun i => f i + g i) n + (f n + g n) = (il_sm f n + f n) + (il_sm g n + g n)
    omega
theorem il_sm_z {f : Nat → Nat} : ∀ n, (∀ i, i < n → f i = 0) → il_sm f n = 0 := by
  intro n
  induction n with
  | zero => intro _; rfl
  | succ n ih =>
    intro h
    show il_sm f n + f n = 0
    rw [ih (fun i hi => h i (by omega)), h n (by omega)]
theorem il_sm_w {f : Nat → Nat → Nat} {m : Nat} : ∀ n, il_sm (fun v => il_sm (fun w => f v w) m) n = il_sm (fun w => il_sm (fun v => f v w) n) m := by
  intro n
  induction n with
  | zero => exact (il_sm_z m (fun _ _ => rfl)).symm
  | succ n ih =>
    show il_sm (fun v => il_sm (fun w => f v w) m) n + il_sm (fun w => f n w) m = il_sm (fun w => il_sm (fun v => f v w) n + f n w) m
    rw [il_sm_a, ih]
theorem il_sm_s {f : Nat → Nat} {m : Nat} : ∀ n, il_sm f (m + n) = il_sm f m + il_sm (fun i => f (m + i)) n := by
  intro n
  induction n with
  | zero => rfl
  | succ n ih =>
    show il_sm f (m + n) + f (m + n) = il_sm f m + (il_sm (fun i => f (m + i)) n + f (m + n))
    omega
theorem il_sm_l {f : Nat → Nat} {k : Nat} : ∀ n, (∀ i, i < n → f i ≤ k) → il_sm f n ≤ n * k := by
  intro n
  induction n with
  | zero => intro _; exact Nat.zero_le _
  | succ n ih =>
    intro h
    have h1 := ih (fun i hi => h i (by omega))
    have h2 := h n (by omega)
    show il_sm f n + f n ≤ (n + 1) * k
    rw [Nat.succ_mul]
    omega
theorem il_cn_s (p : Nat → Bool) : ∀ n, il_cn p n = il_sm (fun i => (p i).toNat) n := by
  intro n
  induction n with
  | zero => rfl
  | succ n ih =>
    show il_cn p n + (p n).toNat = il_sm (fun i => (p i).toNat) n + (p n).toNat
    rw [ih]
/-- all that lives beside v -/
def il_cw (L : Nat → Int32) (v : Nat) : Int32 := il_og (fun b => bt (L b) v) L 12
theorem il_cw_b {L : Nat → Int32} {v w : Nat} : bt (il_cw L v) w = true ↔ ∃ b, b < 12 ∧ bt (L b) v = true ∧ bt (L b) w = true := il_og_b 12
theorem il_cw_s {L : Nat → Int32} {v w : Nat} : bt (il_cw L v) w = bt (il_cw L w) v := by
  apply Bool.eq_iff_iff.mpr
  rw [il_cw_b, il_cw_b]
  constructor
  · rintro ⟨b, hb, h1, h2⟩; exact ⟨b, hb, h2, h1⟩
  · rintro ⟨b, hb, h1, h2⟩; exact ⟨b, hb, h2, h1⟩
theorem il_cw_h {L : Nat → Int32} (hL : ∀ b, b < 12 → ∀ i, 20 ≤ i → bt (L b) i = false) {v w : Nat} (hw : 20 ≤ w) : bt (il_cw L v) w = false := by
  apply ib_tf
  intro h
  obtain ⟨b, hb, _, h2⟩ := il_cw_b.mp h
  rw [hL b hb w hw] at h2
  cases h2
def il_K (L : Nat → Int32) (v w : Nat) : Nat := (decide (v < w) && bt (il_cw L v) w).toNat
def il_cX (L : Nat → Int32) (v : Nat) : Nat := il_cn (bt (il_cw L v >>> (nI (v + 1) &&& 31))) 20
def il_cY (L : Nat → Int32) (v : Nat) : Nat := il_cn (bt (il_cw L v &&& (((1 : Int32) <<< (nI v &&& 31)) ^^^ (-1)))) 20
theorem il_cX_K {L : Nat → Int32} (hL : ∀ b, b < 12 → ∀ i, 20 ≤ i → bt (L b) i = false) {v : Nat} (hv : v < 20) : il_cX L v = il_sm (il_K L v) 20 := by
  have e1 : il_sm (il_K L v) (20 + (v + 1)) = il_sm (il_K L v) 20 := by
    rw [il_sm_s, il_sm_z (v + 1) (fun i hi => ?_), Nat.add_zero]
    unfold il_K
    rw [il_cw_h hL (by omega), Bool.and_false]
    rfl
  have e2 : il_sm (il_K L v) ((v + 1) + 20) = il_sm (fun i => il_K L v (v + 1 + i)) 20 := by
    rw [il_sm_s, il_sm_z (v + 1) (fun i hi => ?_), Nat.zero_add]
    unfold il_K
    rw [decide_eq_false (by omega), Bool.false_and]
    rfl
  rw [Nat.add_comm, e2] at e1
  rw [← e1]
  unfold il_cX
  rw [il_cn_s]
  apply il_sm_c
  intro i hi
  unfold il_K
  rw [b_sshr (v + 1) (by omega) _ (by omega), decide_eq_true (by omega), Bool.true_and]
  by_cases q : v + 1 + i < 32
  · rw [if_pos q]
  · rw [if_neg q, il_cw_h hL (by omega), il_cw_h hL (by omega)]
theorem il_cY_K {L : Nat → Int32} {v : Nat} (hv : v < 20) : il_cY L v = il_sm (fun w => il_K L v w + il_K L w v) 20 := by
  unfold il_cY
  rw [il_cn_s]
  apply il_sm_c
  intro w hw
  unfold il_K
  rw [b_and, ib_not _ (by omega), ib_shl (by omega) (by omega), il_cw_s (v := w) (w := v)]
  by_cases q : w = v
  · rw [decide_eq_true q, decide_eq_false (by omega : ¬ v < w), decide_eq_false (by omega : ¬ w < v)]
    cases bt (il_cw L v) w <;> rfl
  · by_cases q2 : v < w
    · rw [decide_eq_false q, decide_eq_true q2, decide_eq_false (by omega : ¬ w < v)]
      cases bt (il_cw L v) w <;> rfl
    · rw [decide_eq_false q, decide_eq_false q2, decide_eq_true (by omega : w < v)]
      cases bt (il_cw L v) w <;> rfl
theorem il_crowd {L : Nat → Int32} (hL : ∀ b, b < 12 → ∀ i, 20 ≤ i → bt (L b) i = false) : nI (il_sm (il_cY L) 20) / 2 = nI (il_sm (il_cX L) 20) := by
  have e1 : il_sm (il_cX L) 20 = il_sm (fun v => il_sm (il_K L v) 20) 20 := il_sm_c 20 (fun v hv => il_cX_K hL hv)
  have e2 : il_sm (il_cY L) 20 = il_sm (fun v => il_sm (il_K L v) 20) 20 + il_sm (fun v => il_sm (il_K L v) 20) 20 := by
    rw [il_sm_c 20 (fun v hv => il_cY_K hv)]
    have : il_sm (fun v => il_sm (fun w => il_K L v w + il_K L w v) 20) 20 = il_sm (fun v => il_sm (fun w => il_K L v w) 20 + il_sm (fun w => il_K L w v) 20) 20 := il_sm_c 20 (fun v _ => il_sm_a 20)
    rw [this, il_sm_a, il_sm_w (f := fun v w => il_K L w v) 20]
  have hb : il_sm (il_cX L) 20 ≤ 20 * 20 := il_sm_l 20 (fun v _ => il_cn_n _ 20)
  rw [e1] at hb
  rw [e1, e2]
  generalize il_sm (fun v => il_sm (il_K L v) 20) 20 = T at hb
  show nI (T + T) / nI 2 = nI T
  rw [pk_div (by omega) (by decide) (by decide)]
  exact congrArg nI (by omega)
