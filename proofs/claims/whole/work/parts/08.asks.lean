/-! the asking methods: X reads its kept sets, Y spreads first -/
theorem xv_li {post : Int32 → Prop} {A U S L : Nat → Int32} {b : Nat} (hb : b < 12) (h : post (L b)) : wpX_liveIn post (A, U, S, L) (nI b) := by
  unfold wpX_liveIn
  dsimp only
  refine wv_bXt hb (br_f (by decide) ?_)
  rw [ib_cl hb]
  exact ⟨ib_in hb, h⟩
theorem yv_li {post : Int32 → SY → Prop} {A U S L : Nat → Int32} {b : Nat} (hb : b < 12) (h : ∀ L', (∀ c, c < 12 → L' c = il_fl A U S 12 c) → post (L' b) (A, U, S, L')) : wpY_liveIn post (A, U, S, L) (nI b) := by
  unfold wpY_liveIn
  dsimp only
  refine wv_bYt hb (br_f (by decide) ?_)
  refine wv_rY (fun L' hL => ?_)
  dsimp only
  rw [ib_cl hb]
  exact ⟨ib_in hb, h L' hL⟩
theorem xv_lo {post : Int32 → Prop} {A U S L : Nat → Int32} {b : Nat} (hb : b < 12) (h : post (il_og (bt (A b)) L 12)) : wpX_liveOut post (A, U, S, L) (nI b) := by
  unfold wpX_liveOut
  dsimp only
  refine wv_bXt hb (br_f (by decide) ?_)
  exact wv_eX hb h
theorem yv_lo {post : Int32 → SY → Prop} {A U S L : Nat → Int32} {b : Nat} (hb : b < 12) (h : ∀ L', (∀ c, c < 12 → L' c = il_fl A U S 12 c) → post (il_og (bt (A b)) L' 12) (A, U, S, L')) : wpY_liveOut post (A, U, S, L) (nI b) := by
  unfold wpY_liveOut
  dsimp only
  refine wv_bYt hb (br_f (by decide) ?_)
  refine wv_rY (fun L' hL => ?_)
  exact wv_eY hb (h L' hL)
theorem xv_lb {post : Int32 → Prop} {A U S L : Nat → Int32} {v : Nat} (hv : v < 20) (h : post (il_bw L v 12)) : wpX_liveBlocks post (A, U, S, L) (nI v) := by
  unfold wpX_liveBlocks
  dsimp only
  refine wv_vXt hv (br_f (by decide) ?_)
  exact wv_wXl hv h
theorem yv_lb {post : Int32 → SY → Prop} {A U S L : Nat → Int32} {v : Nat} (hv : v < 20) (h : ∀ L', (∀ c, c < 12 → L' c = il_fl A U S 12 c) → post (il_bw L' v 12) (A, U, S, L')) : wpY_liveBlocks post (A, U, S, L) (nI v) := by
  unfold wpY_liveBlocks
  dsimp only
  refine wv_vYt hv (br_f (by decide) ?_)
  refine wv_rY (fun L' hL => ?_)
  have h' := h L' hL
  refine ib_lo (fun n i s => wY_liveBlocks_18 post (nI v) A U S L' n s (nI i)) (il_bw L' v) 12 ?_ ?_
  · intro n
    exact br_t ib_e12 h'
  · intro n i hi hn
    refine br_f (ib_12 hi) ⟨ib_in hi, ?_⟩
    rw [ib_cl hi]
    refine wv_hY (by omega) (fun e => br_t rfl (nm_r (nI_1 i) ?_)) (fun e => br_f (by decide) (nm_r (il_og_t (p := fun b => bt (L' b) v) e).symm (nm_r (nI_1 i) hn)))
    have z : il_bw L' v (i + 1) = il_bw L' v i := il_og_f (p := fun b => bt (L' b) v) e
    rw [z] at hn
    exact hn
def il_id (A S L : Nat → Int32) (b : Nat) : Nat := il_cn (bt (S b &&& (il_og (bt (A b)) L 12 ^^^ (-1)))) 20
theorem xv_id {post : Int32 → Prop} {A U S L : Nat → Int32} (h : post (nI (il_sm (il_id A S L) 12))) : wpX_idleSets post (A, U, S, L) := by
  refine ib_lo (fun n i s => wX_idleSets_4 post A U S L n s (nI i)) (fun i => nI (il_sm (il_id A S L) i)) 12 ?_ ?_
  · intro n
    exact br_t ib_e12 h
  · intro n i hi hn
    refine br_f (ib_12 hi) (wv_eX hi ⟨ib_in hi, ?_⟩)
    rw [ib_cl hi]
    exact wv_sX (nm_r (nI_add _ _) (nm_r (nI_1 i) hn))
theorem yv_id {post : Int32 → SY → Prop} {A U S L : Nat → Int32} (h : ∀ L', (∀ c, c < 12 → L' c = il_fl A U S 12 c) → post (nI (il_sm (il_id A S L') 12)) (A, U, S, L')) : wpY_idleSets post (A, U, S, L) := by
  unfold wpY_idleSets
  dsimp only
  refine wv_rY (fun L' hL => ?_)
  have h' := h L' hL
  refine ib_lo (fun n i s => wY_idleSets_8 post A U S L' n s (nI i)) (fun i => nI (il_sm (il_id A S L') i)) 12 ?_ ?_
  · intro n
    exact br_t ib_e12 h'
  · intro n i hi hn
    refine br_f (ib_12 hi) (wv_eY hi ⟨ib_in hi, ?_⟩)
    rw [ib_cl hi]
    exact wv_sY (nm_r (nI_add _ _) (nm_r (nI_1 i) hn))
def il_pr (L : Nat → Int32) : Nat → Int32 := il_mx (fun b => nI (il_cn (bt (L b)) 20))
theorem il_pr_t {L : Nat → Int32} {i : Nat} (h : nI (il_cn (bt (L i)) 20) ≤ il_pr L i) : il_pr L (i + 1) = il_pr L i := if_pos h
theorem il_pr_f {L : Nat → Int32} {i : Nat} (h : ¬ nI (il_cn (bt (L i)) 20) ≤ il_pr L i) : il_pr L (i + 1) = nI (il_cn (bt (L i)) 20) := if_neg h
theorem xv_pr {post : Int32 → Prop} {A U S L : Nat → Int32} (h : post (il_pr L 12)) : wpX_pressure post (A, U, S, L) := by
  refine ib_lo (fun n i s => wX_pressure_4 post A U S L n s (nI i)) (il_pr L) 12 ?_ ?_
  · intro n
    exact br_t ib_e12 h
  · intro n i hi hn
    refine br_f (ib_12 hi) ⟨ib_in hi, ?_⟩
    rw [ib_cl hi]
    refine wv_sX (br_c (fun e => nm_r (nI_1 i) ?_) (fun e => nm_r (nI_1 i) ?_))
    · rw [il_pr_t e] at hn
      exact hn
    · rw [il_pr_f e] at hn
      exact hn
theorem yv_pr {post : Int32 → SY → Prop} {A U S L : Nat → Int32} (h : ∀ L', (∀ c, c < 12 → L' c = il_fl A U S 12 c) → post (il_pr L' 12) (A, U, S, L')) : wpY_pressure post (A, U, S, L) := by
  unfold wpY_pressure
  dsimp only
  refine wv_rY (fun L' hL => ?_)
  have h' := h L' hL
  refine ib_lo (fun n i s => wY_pressure_8 post A U S L' n s (nI i)) (il_pr L') 12 ?_ ?_
  · intro n
    exact br_t ib_e12 h'
  · intro n i hi hn
    refine br_f (ib_12 hi) ⟨ib_in hi, ?_⟩
    rw [ib_cl hi]
    refine wv_sY (br_c (fun e => nm_r (nI_1 i) ?_) (fun e => nm_r (nI_1 i) ?_))
    · rw [il_pr_t e] at hn
      exact hn
    · rw [il_pr_f e] at hn
      exact hn
theorem xv_re {post : Int32 → Prop} {A U S L : Nat → Int32} {t v : Nat} (ht : t < 12) (hv : v < 20) (h : post (il_re A S t v 12)) : wpX_reaching post (A, U, S, L) (nI t) (nI v) := by
  unfold wpX_reaching
  dsimp only
  refine wv_bXt ht (br_f (by decide) ?_)
  refine wv_vXt hv (br_f (by decide) ?_)
  refine wv_wXs hv ?_
  refine wv_bb ht (fun x hx => ?_)
  rw [il_re_x hx]
  exact h
theorem xv_re_n {post : Int32 → Prop} {A U S L : Nat → Int32} {x y : Int32} (hn : ¬ (il_B x ∧ il_V y)) (h : post (-1)) : wpX_reaching post (A, U, S, L) x y := by
  unfold wpX_reaching
  dsimp only
  by_cases hx : il_B x
  · have hy : ¬ il_V y := fun z => hn ⟨hx, z⟩
    obtain ⟨a, ha, rfl⟩ := hx
    refine wv_bXt ha (br_f (by decide) ?_)
    exact wv_vXf hy (br_t rfl h)
  · exact wv_bXf hx (br_t rfl h)
theorem yv_re {post : Int32 → Prop} {A U S L : Nat → Int32} {t v : Nat} (ht : t < 12) (hv : v < 20) (h : post (il_re A S t v 12)) : wpY_reaching post (A, U, S, L) (nI t) (nI v) := by
  unfold wpY_reaching
  dsimp only
  refine wv_bYt ht (br_f (by decide) ?_)
  refine wv_vYt hv (br_f (by decide) ?_)
  exact wv_r23 ht hv h
theorem yv_re_n {post : Int32 → Prop} {A U S L : Nat → Int32} {x y : Int32} (hn : ¬ (il_B x ∧ il_V y)) (h : post (-1)) : wpY_reaching post (A, U, S, L) x y := by
  unfold wpY_reaching
  dsimp only
  by_cases hx : il_B x
  · have hy : ¬ il_V y := fun z => hn ⟨hx, z⟩
    obtain ⟨a, ha, rfl⟩ := hx
    refine wv_bYt ha (br_f (by decide) ?_)
    exact wv_vYf hy (br_t rfl h)
  · exact wv_bYf hx (br_t rfl h)
theorem wv_c15 {post : Int32 → Prop} {J : Int32 → Int32 → Prop} {A U S L : Nat → Int32} {v : Nat} {x1 : Int32} (hv : v < 20) (h : J (x1 + nI (il_cX L v)) (nI (v + 1))) : ∃ n, wX_crowded_15 post J x1 (nI v) A U S L n 0 0 := by
  refine ib_lo (fun n i s => wX_crowded_15 post J x1 (nI v) A U S L n s (nI i)) (il_og (fun b => bt (L b) v) L) 12 ?_ ?_
  · intro n
    refine br_t ib_e12 ?_
    rw [nI_1 v]
    exact wv_sX (nm_e (nm_e h))
  · intro n i hi hn
    refine br_f (ib_12 hi) ⟨ib_in hi, ?_⟩
    rw [ib_cl hi]
    refine wv_cX (by omega) (fun e => br_t rfl (nm_r (nI_1 i) ?_)) (fun e => br_f (by decide) ⟨ib_in hi, nm_r (il_og_t (p := fun b => bt (L b) v) e).symm (nm_r (nI_1 i) hn)⟩)
    rw [il_og_f (p := fun b => bt (L b) v) e] at hn
    exact hn
theorem xv_cr {post : Int32 → Prop} {A U S L : Nat → Int32} (h : post (nI (il_sm (il_cX L) 20))) : wpX_crowded post (A, U, S, L) := by
  refine ib_lo (fun n i s => wX_crowded_4 post A U S L n s (nI i)) (fun i => nI (il_sm (il_cX L) i)) 20 ?_ ?_
  · intro n
    exact br_t ib_e20 h
  · intro n i hi hn
    refine br_f (ib_20 hi) (wv_c15 hi ?_)
    rw [nI_add]
    exact hn
theorem wv_bs {post : Int32 → Prop} {A U S L : Nat → Int32} {v : Nat} (hv : v < 20) (h : post (il_cw L v &&& (((1 : Int32) <<< (nI v &&& 31)) ^^^ (-1)))) : wpY_besides post (A, U, S, L) (nI v) := by
  refine ib_lo (fun n i s => wY_besides_4 post (nI v) A U S L n s (nI i)) (il_og (fun b => bt (L b) v) L) 12 ?_ ?_
  · intro n
    exact br_t ib_e12 h
  · intro n i hi hn
    refine br_f (ib_12 hi) ⟨ib_in hi, ?_⟩
    rw [ib_cl hi]
    refine wv_hY (by omega) (fun e => br_t rfl (nm_r (nI_1 i) ?_)) (fun e => br_f (by decide) ⟨ib_in hi, nm_r (il_og_t (p := fun b => bt (L b) v) e).symm (nm_r (nI_1 i) hn)⟩)
    rw [il_og_f (p := fun b => bt (L b) v) e] at hn
    exact hn
theorem yv_cr {post : Int32 → SY → Prop} {A U S L : Nat → Int32} (h : ∀ L', (∀ c, c < 12 → L' c = il_fl A U S 12 c) → post (nI (il_sm (il_cY L') 20) / 2) (A, U, S, L')) : wpY_crowded post (A, U, S, L) := by
  unfold wpY_crowded
  dsimp only
  refine wv_rY (fun L' hL => ?_)
  have h' := h L' hL
  refine ib_lo (fun n i s => wY_crowded_8 post A U S L' n s (nI i)) (fun i => nI (il_sm (il_cY L') i)) 20 ?_ ?_
  · intro n
    exact br_t ib_e20 ⟨by decide, h'⟩
  · intro n i hi hn
    exact br_f (ib_20 hi) (wv_bs hi (wv_sY (nm_r (nI_add _ _) (nm_r (nI_1 i) hn))))
