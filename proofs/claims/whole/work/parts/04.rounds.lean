/-! refreshLive and spread both end at the twelfth level -/
theorem wv_31 {post : SX → Prop} {J : Int32 → (Nat → Int32) → (Nat → Int32) → (Nat → Int32) → (Nat → Int32) → Prop} {A U S L : Nat → Int32} {p : Nat} (h0 : il_In A U S p 0 L) (h : ∀ L', il_In A U S p 12 L' → J (nI (p + 1)) A U S L') : ∃ n, wX_refreshLive_31 post J (nI p) n 0 A U S L := by
  refine loop_0 (fun n i L => wX_refreshLive_31 post J (nI p) n (nI i) A U S L) (fun i L => il_In A U S p i L) 12 L h0 ?_ ?_
  · intro n L' hI
    exact br_t ib_e12 (nm_r (nI_1 p) (h L' hI))
  · intro n i L' hi hI ih
    refine br_f (ib_12 hi) (wv_eX hi ⟨ib_in hi, ib_in hi, ib_in hi, ?_⟩)
    rw [ib_cl hi]
    refine nm_e (nm_r (nI_1 i) (ih _ (il_step hI hi (fun i hi h => h) (fun i hi h => Or.inl h))))
theorem wv_23 {post : SX → Prop} {A U S L : Nat → Int32} (h0 : il_In A U S 0 0 L) (h : ∀ L', (∀ c, c < 12 → L' c = il_fl A U S 12 c) → post (A, U, S, L')) : ∃ n, wX_refreshLive_23 post n 0 A U S L := by
  refine loop_0 (fun n p L => wX_refreshLive_23 post n (nI p) A U S L) (fun p L => il_In A U S p 0 L) 12 L h0 ?_ ?_
  · intro n L' hI
    exact br_t ib_e12 (h L' (il_end hI))
  · intro n i L' hi hI ih
    exact br_f (ib_12 hi) (wv_31 hI (fun L'' hI' => ih L'' (il_next hI')))
theorem wv_rX {post : SX → Prop} {A U S L : Nat → Int32} (h : ∀ L', (∀ c, c < 12 → L' c = il_fl A U S 12 c) → post (A, U, S, L')) : wpX_refreshLive post (A, U, S, L) := by
  refine loop_0 (fun n p L => wX_refreshLive_2 post n (nI p) A U S L) (fun p L => ∀ b, b < p → L b = 0) 12 L (fun b hb => by omega) ?_ ?_
  · intro n L' hI
    exact br_t ib_e12 (wv_23 (il_beg0 hI) h)
  · intro n i L' hi hI ih
    refine br_f (ib_12 hi) ⟨ib_in hi, ?_⟩
    rw [ib_cl hi]
    refine nm_e (nm_r (nI_1 i) (ih _ (fun b hb => ?_)))
    by_cases e : b = i
    · subst e
      exact pk_us
    · rw [pk_un e]
      exact hI b (by omega)
theorem wv_36 {post : SY → Prop} {J : Int32 → (Nat → Int32) → (Nat → Int32) → (Nat → Int32) → (Nat → Int32) → Prop} {A U S L : Nat → Int32} {p : Nat} (h0 : il_In A U S p 0 L) (hU : ∀ b, b < 12 → ∀ i, bt (U b) i = true → bt (L b) i = true) (h : ∀ L', il_In A U S p 12 L' → (∀ b, b < 12 → ∀ i, bt (U b) i = true → bt (L' b) i = true) → J (nI (p + 1)) A U S L') : ∃ n, wY_spread_36 post J (nI p) n 0 A U S L := by
  refine loop_0 (fun n i L => wY_spread_36 post J (nI p) n (nI i) A U S L) (fun i L => il_In A U S p i L ∧ ∀ b, b < 12 → ∀ i, bt (U b) i = true → bt (L b) i = true) 12 L ⟨h0, hU⟩ ?_ ?_
  · intro n L' hI
    exact br_t ib_e12 (nm_r (nI_1 p) (h L' hI.1 hI.2))
  · intro n i L' hi hI ih
    refine br_f (ib_12 hi) ⟨ib_in hi, wv_eY hi ⟨ib_in hi, ib_in hi, ?_⟩⟩
    rw [ib_cl hi]
    refine nm_e (nm_r (nI_1 i) (ih _ ⟨il_step hI.1 hi (fun k hk h => ?_) (fun k hk h => ?_), fun b hb k h => ?_⟩))
    · unfold il_fo at h
      rw [b_or, Bool.or_eq_true] at h ⊢
      exact h.imp (hI.2 i hi k) id
    · unfold il_fo
      rw [b_or, Bool.or_eq_true] at h ⊢
      rcases h with h | h
      · exact Or.inr h
      · exact Or.inl (Or.inr h)
    · by_cases e : b = i
      · subst e
        rw [pk_us, b_or, Bool.or_eq_true]
        exact Or.inl (hI.2 b hb k h)
      · rw [pk_un e]
        exact hI.2 b hb k h
theorem wv_28 {post : SY → Prop} {A U S L : Nat → Int32} (h0 : il_In A U S 0 0 L) (hU : ∀ b, b < 12 → ∀ i, bt (U b) i = true → bt (L b) i = true) (h : ∀ L', (∀ c, c < 12 → L' c = il_fl A U S 12 c) → post (A, U, S, L')) : ∃ n, wY_spread_28 post n 0 A U S L := by
  refine loop_0 (fun n p L => wY_spread_28 post n (nI p) A U S L) (fun p L => il_In A U S p 0 L ∧ ∀ b, b < 12 → ∀ i, bt (U b) i = true → bt (L b) i = true) 12 L ⟨h0, hU⟩ ?_ ?_
  · intro n L' hI
    exact br_t ib_e12 (h L' (il_end hI.1))
  · intro n i L' hi hI ih
    exact br_f (ib_12 hi) (wv_36 hI.1 hI.2 (fun L'' hI' hU' => ih L'' ⟨il_next hI', hU'⟩))
theorem wv_rY {post : SY → Prop} {A U S L : Nat → Int32} (h : ∀ L', (∀ c, c < 12 → L' c = il_fl A U S 12 c) → post (A, U, S, L')) : wpY_spread post (A, U, S, L) := by
  refine loop_0 (fun n p L => wY_spread_2 post n (nI p) A U S L) (fun p L => ∀ b, b < p → L b = U b) 12 L (fun b hb => by omega) ?_ ?_
  · intro n L' hI
    exact br_t ib_e12 (wv_28 (il_begU hI) (fun b hb i h => by rw [hI b hb]; exact h) h)
  · intro n i L' hi hI ih
    refine br_f (ib_12 hi) ⟨ib_in hi, ib_in hi, ?_⟩
    rw [ib_cl hi]
    refine nm_e (nm_r (nI_1 i) (ih _ (fun b hb => ?_)))
    by_cases e : b = i
    · subst e
      exact pk_us
    · rw [pk_un e]
      exact hI b (by omega)
