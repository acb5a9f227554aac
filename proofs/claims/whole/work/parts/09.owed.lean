/-- both sides keep the same arcs, uses and sets; X's kept sets are the twelfth level of the liveness equations; no use lies above variable 19. Y's own array is worked out anew at every ask -/
def i_Rel (_ : Nat) (u : SX) (v : SY) : Prop := ∃ A U S L M : Nat → Int32, u = (A, U, S, L) ∧ v = (A, U, S, M) ∧ (∀ c, c < 12 → L c = il_fl A U S 12 c) ∧ (∀ c, c < 12 → ∀ i, 20 ≤ i → bt (U c) i = false)
theorem i_up {k : Nat} {u : SX} {v : SY} (h : i_Rel k u v) : i_Rel (k + 4) u v := h
theorem i_vc0 : wpX_init (fun u => wpY_init (fun v => i_Rel 0 u v)) :=
  ⟨_, _, _, _, _, rfl, rfl, fun c _ => (il_fl_0 (fun _ => rfl) 12 c).symm, fun _ _ i _ => b_0 i⟩
theorem ow_swU {U : Nat → Int32} {a b : Nat} {on : Int32} (hb : b < 20) (hU : ∀ c, c < 12 → ∀ i, 20 ≤ i → bt (U c) i = false) : ∀ c, c < 12 → ∀ i, 20 ≤ i → bt (il_sw U a b on c) i = false := by
  intro c hc i hi
  by_cases q : i < 32
  · by_cases e : c = a
    · subst e
      by_cases z : on = 0
      · rw [il_sw_0 z, pk_us, b_and, hU c hc i hi]
        rfl
      · rw [il_sw_1 z, pk_us, b_or, hU c hc i hi, ib_shl (by omega) q, decide_eq_false (by omega)]
        rfl
    · unfold il_sw
      rw [pk_un e]
      exact hU c hc i hi
  · exact b_big (by omega)
theorem ow_W {x : Int32} (h : il_W x) {i : Nat} (hi : 20 ≤ i) : bt x i = false := by
  obtain ⟨j, hj, rfl⟩ := nI_of h.1
  have h2 : ¬ nI 1048575 < nI j := h.2
  rw [nI_ltI (by decide) hj] at h2
  exact ib_nI (n := 20) (by omega) hi
theorem ow_updU {U : Nat → Int32} {a : Nat} {x : Int32} (hx : il_W x) (hU : ∀ c, c < 12 → ∀ i, 20 ≤ i → bt (U c) i = false) : ∀ c, c < 12 → ∀ i, 20 ≤ i → bt (upd U a x c) i = false := by
  intro c hc i hi
  by_cases e : c = a
  · subst e
    rw [pk_us]
    exact ow_W hx hi
  · rw [pk_un e]
    exact hU c hc i hi
theorem i_vc_arc {k : Nat} {u : SX} {v : SY} (I : i_Rel k u v) (hk : k + 4 ≤ 2048) (v1 : Int32) (v2 : Int32) (v3 : Int32) : wpX_arc (fun r u' => wpY_arc (fun r' v' => r' = r ∧ i_Rel (k + 4) u' v') v v1 v2 v3) u v1 v2 v3 := by
  obtain ⟨A, U, S, L, M, rfl, rfl, hL, hU⟩ := I
  by_cases hn : il_B v1 ∧ il_B v2
  · obtain ⟨⟨a, ha, rfl⟩, b, hb, rfl⟩ := hn
    exact xv_arc ha hb (fun L' hL' => yv_arc ha hb ⟨rfl, _, _, _, _, _, rfl, rfl, hL', hU⟩)
  · exact xv_arc_n hn (yv_arc_n hn ⟨rfl, _, _, _, _, _, rfl, rfl, hL, hU⟩)
theorem i_vc_hasArc {k : Nat} {u : SX} {v : SY} (I : i_Rel k u v) (hk : k + 4 ≤ 2048) (v1 : Int32) (v2 : Int32) : wpX_hasArc (fun r => wpY_hasArc (fun r' => r' = r ∧ i_Rel (k + 4) u v) v v1 v2) u v1 v2 := by
  have I' : i_Rel (k + 4) u v := I
  obtain ⟨A, U, S, L, M, rfl, rfl, hL, hU⟩ := I
  by_cases hn : il_B v1 ∧ il_B v2
  · obtain ⟨⟨a, ha, rfl⟩, b, hb, rfl⟩ := hn
    exact xv_has ha hb (yv_has ha hb ⟨rfl, I'⟩)
  · exact xv_has_n hn (yv_has_n hn ⟨rfl, I'⟩)
theorem i_vc_use {k : Nat} {u : SX} {v : SY} (I : i_Rel k u v) (hk : k + 4 ≤ 2048) (v1 : Int32) (v2 : Int32) (v3 : Int32) : wpX_use (fun r u' => wpY_use (fun r' v' => r' = r ∧ i_Rel (k + 4) u' v') v v1 v2 v3) u v1 v2 v3 := by
  obtain ⟨A, U, S, L, M, rfl, rfl, hL, hU⟩ := I
  by_cases hn : il_B v1 ∧ il_V v2
  · obtain ⟨⟨a, ha, rfl⟩, b, hb, rfl⟩ := hn
    exact xv_use ha hb (fun L' hL' => yv_use ha hb ⟨rfl, _, _, _, _, _, rfl, rfl, hL', ow_swU hb hU⟩)
  · exact xv_use_n hn (yv_use_n hn ⟨rfl, _, _, _, _, _, rfl, rfl, hL, hU⟩)
theorem i_vc_set {k : Nat} {u : SX} {v : SY} (I : i_Rel k u v) (hk : k + 4 ≤ 2048) (v1 : Int32) (v2 : Int32) (v3 : Int32) : wpX_set (fun r u' => wpY_set (fun r' v' => r' = r ∧ i_Rel (k + 4) u' v') v v1 v2 v3) u v1 v2 v3 := by
  obtain ⟨A, U, S, L, M, rfl, rfl, hL, hU⟩ := I
  by_cases hn : il_B v1 ∧ il_V v2
  · obtain ⟨⟨a, ha, rfl⟩, b, hb, rfl⟩ := hn
    exact xv_set ha hb (fun L' hL' => yv_set ha hb ⟨rfl, _, _, _, _, _, rfl, rfl, hL', hU⟩)
  · exact xv_set_n hn (yv_set_n hn ⟨rfl, _, _, _, _, _, rfl, rfl, hL, hU⟩)
theorem i_vc_block {k : Nat} {u : SX} {v : SY} (I : i_Rel k u v) (hk : k + 4 ≤ 2048) (v1 : Int32) (v2 : Int32) (v3 : Int32) : wpX_block (fun r u' => wpY_block (fun r' v' => r' = r ∧ i_Rel (k + 4) u' v') v v1 v2 v3) u v1 v2 v3 := by
  obtain ⟨A, U, S, L, M, rfl, rfl, hL, hU⟩ := I
  by_cases hn : il_B v1 ∧ il_W v2 ∧ il_W v3
  · obtain ⟨⟨a, ha, rfl⟩, h2, h3⟩ := hn
    exact xv_blk ha h2 h3 (fun L' hL' => yv_blk ha h2 h3 ⟨rfl, _, _, _, _, _, rfl, rfl, hL', ow_updU h2 hU⟩)
  · exact xv_blk_n hn (yv_blk_n hn ⟨rfl, _, _, _, _, _, rfl, rfl, hL, hU⟩)
theorem i_vc_cutOff {k : Nat} {u : SX} {v : SY} (I : i_Rel k u v) (hk : k + 4 ≤ 2048) (v1 : Int32) : wpX_cutOff (fun r u' => wpY_cutOff (fun r' v' => r' = r ∧ i_Rel (k + 4) u' v') v v1) u v1 := by
  obtain ⟨A, U, S, L, M, rfl, rfl, hL, hU⟩ := I
  by_cases hn : il_B v1
  · obtain ⟨a, ha, rfl⟩ := hn
    exact xv_cut ha (fun L' hL' => yv_cut ha ⟨rfl, _, _, _, _, _, rfl, rfl, hL', hU⟩)
  · exact xv_cut_n hn (yv_cut_n hn ⟨rfl, _, _, _, _, _, rfl, rfl, hL, hU⟩)
theorem i_vc_takeOver {k : Nat} {u : SX} {v : SY} (I : i_Rel k u v) (hk : k + 4 ≤ 2048) (v1 : Int32) (v2 : Int32) : wpX_takeOver (fun r u' => wpY_takeOver (fun r' v' => r' = r ∧ i_Rel (k + 4) u' v') v v1 v2) u v1 v2 := by
  obtain ⟨A, U, S, L, M, rfl, rfl, hL, hU⟩ := I
  by_cases hn : il_B v1 ∧ il_B v2 ∧ v1 ≠ v2
  · obtain ⟨⟨a, ha, rfl⟩, ⟨b, hb, rfl⟩, h3⟩ := hn
    have h3' : a ≠ b := fun z => h3 (congrArg nI z)
    exact xv_tk ha hb h3' (fun L' hL' => yv_tk ha hb h3' ⟨rfl, _, _, _, _, _, rfl, rfl, hL', hU⟩)
  · exact xv_tk_n hn (yv_tk_n hn ⟨rfl, _, _, _, _, _, rfl, rfl, hL, hU⟩)
theorem i_vc_liveIn {k : Nat} {u : SX} {v : SY} (I : i_Rel k u v) (hk : k + 4 ≤ 2048) (v1 : Int32) : wpX_liveIn (fun r => wpY_liveIn (fun r' v' => r' = r ∧ i_Rel (k + 4) u v') v v1) u v1 := by
  obtain ⟨A, U, S, L, M, rfl, rfl, hL, hU⟩ := I
  by_cases hn : il_B v1
  · obtain ⟨a, ha, rfl⟩ := hn
    exact xv_li ha (yv_li ha (fun M' hM => ⟨(hM a ha).trans (hL a ha).symm, _, _, _, _, _, rfl, rfl, hL, hU⟩))
  · unfold wpX_liveIn wpY_liveIn
    dsimp only
    exact wv_bXf hn (br_t rfl (wv_bYf hn (br_t rfl ⟨rfl, _, _, _, _, _, rfl, rfl, hL, hU⟩)))
theorem i_vc_liveOut {k : Nat} {u : SX} {v : SY} (I : i_Rel k u v) (hk : k + 4 ≤ 2048) (v1 : Int32) : wpX_liveOut (fun r => wpY_liveOut (fun r' v' => r' = r ∧ i_Rel (k + 4) u v') v v1) u v1 := by
  obtain ⟨A, U, S, L, M, rfl, rfl, hL, hU⟩ := I
  by_cases hn : il_B v1
  · obtain ⟨a, ha, rfl⟩ := hn
    exact xv_lo ha (yv_lo ha (fun M' hM => ⟨il_og_c 12 (fun _ _ => rfl) (fun c hc => (hM c hc).trans (hL c hc).symm), _, _, _, _, _, rfl, rfl, hL, hU⟩))
  · unfold wpX_liveOut wpY_liveOut
    dsimp only
    exact wv_bXf hn (br_t rfl (wv_bYf hn (br_t rfl ⟨rfl, _, _, _, _, _, rfl, rfl, hL, hU⟩)))
theorem i_vc_liveBlocks {k : Nat} {u : SX} {v : SY} (I : i_Rel k u v) (hk : k + 4 ≤ 2048) (v1 : Int32) : wpX_liveBlocks (fun r => wpY_liveBlocks (fun r' v' => r' = r ∧ i_Rel (k + 4) u v') v v1) u v1 := by
  obtain ⟨A, U, S, L, M, rfl, rfl, hL, hU⟩ := I
  by_cases hn : il_V v1
  · obtain ⟨a, ha, rfl⟩ := hn
    exact xv_lb ha (yv_lb ha (fun M' hM => ⟨il_og_c 12 (fun c hc => by rw [hM c hc, hL c hc]) (fun _ _ => rfl), _, _, _, _, _, rfl, rfl, hL, hU⟩))
  · unfold wpX_liveBlocks wpY_liveBlocks
    dsimp only
    exact wv_vXf hn (br_t rfl (wv_vYf hn (br_t rfl ⟨rfl, _, _, _, _, _, rfl, rfl, hL, hU⟩)))
theorem i_vc_idleSets {k : Nat} {u : SX} {v : SY} (I : i_Rel k u v) (hk : k + 4 ≤ 2048) : wpX_idleSets (fun r => wpY_idleSets (fun r' v' => r' = r ∧ i_Rel (k + 4) u v') v) u := by
  obtain ⟨A, U, S, L, M, rfl, rfl, hL, hU⟩ := I
  refine xv_id (yv_id (fun M' hM => ⟨congrArg nI (il_sm_c 12 (fun b hb => ?_)), _, _, _, _, _, rfl, rfl, hL, hU⟩))
  unfold il_id
  rw [il_og_c (f := M') (g := L) 12 (fun _ _ => rfl) (fun c hc => (hM c hc).trans (hL c hc).symm)]
theorem i_vc_pressure {k : Nat} {u : SX} {v : SY} (I : i_Rel k u v) (hk : k + 4 ≤ 2048) : wpX_pressure (fun r => wpY_pressure (fun r' v' => r' = r ∧ i_Rel (k + 4) u v') v) u := by
  obtain ⟨A, U, S, L, M, rfl, rfl, hL, hU⟩ := I
  exact xv_pr (yv_pr (fun M' hM => ⟨il_mx_c 12 (fun b hb => by rw [hM b hb, hL b hb]), _, _, _, _, _, rfl, rfl, hL, hU⟩))
theorem i_vc_reaching {k : Nat} {u : SX} {v : SY} (I : i_Rel k u v) (hk : k + 4 ≤ 2048) (v1 : Int32) (v2 : Int32) : wpX_reaching (fun r => wpY_reaching (fun r' => r' = r ∧ i_Rel (k + 4) u v) v v1 v2) u v1 v2 := by
  have I' : i_Rel (k + 4) u v := I
  obtain ⟨A, U, S, L, M, rfl, rfl, hL, hU⟩ := I
  by_cases hn : il_B v1 ∧ il_V v2
  · obtain ⟨⟨a, ha, rfl⟩, b, hb, rfl⟩ := hn
    exact xv_re ha hb (yv_re ha hb ⟨rfl, I'⟩)
  · exact xv_re_n hn (yv_re_n hn ⟨rfl, I'⟩)
theorem i_vc_crowded {k : Nat} {u : SX} {v : SY} (I : i_Rel k u v) (hk : k + 4 ≤ 2048) : wpX_crowded (fun r => wpY_crowded (fun r' v' => r' = r ∧ i_Rel (k + 4) u v') v) u := by
  obtain ⟨A, U, S, L, M, rfl, rfl, hL, hU⟩ := I
  refine xv_cr (yv_cr (fun M' hM => ⟨?_, _, _, _, _, _, rfl, rfl, hL, hU⟩))
  have e : ∀ c, c < 12 → M' c = L c := fun c hc => (hM c hc).trans (hL c hc).symm
  have e2 : ∀ v, il_cw M' v = il_cw L v := fun v => il_og_c 12 (fun c hc => by rw [e c hc]) e
  have e3 : il_sm (il_cY M') 20 = il_sm (il_cY L) 20 := il_sm_c 20 (fun v _ => by unfold il_cY; rw [e2 v])
  rw [e3]
  refine il_crowd (fun b hb i hi => ?_)
  by_cases q : i < 32
  · rw [hL b hb]
    exact il_fl_hi q (fun c hc => hU c hc i hi) 12 b hb
  · exact b_big (by omega)
