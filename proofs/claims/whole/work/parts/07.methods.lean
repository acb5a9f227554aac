/-! each public method against its picture, each side by itself -/
theorem xv_arc {post : Int32 → SX → Prop} {A U S L : Nat → Int32} {a b : Nat} {on : Int32} (ha : a < 12) (hb : b < 12) (h : ∀ L', (∀ c, c < 12 → L' c = il_fl (il_sw A a b on) U S 12 c) → post ((A a >>> (nI b &&& 31)) &&& 1) (il_sw A a b on, U, S, L')) : wpX_arc post (A, U, S, L) (nI a) (nI b) on := by
  unfold wpX_arc
  dsimp only
  refine wv_bXt ha (br_f (by decide) ?_)
  refine wv_bXt hb (br_f (by decide) ?_)
  refine wv_mA ha ?_
  exact wv_rX h
theorem xv_arc_n {post : Int32 → SX → Prop} {A U S L : Nat → Int32} {x y on : Int32} (hn : ¬ (il_B x ∧ il_B y)) (h : post (-1) (A, U, S, L)) : wpX_arc post (A, U, S, L) x y on := by
  unfold wpX_arc
  dsimp only
  by_cases hx : il_B x
  · have hy : ¬ il_B y := fun z => hn ⟨hx, z⟩
    obtain ⟨a, ha, rfl⟩ := hx
    refine wv_bXt ha (br_f (by decide) ?_)
    exact wv_bXf hy (br_t rfl h)
  · exact wv_bXf hx (br_t rfl h)
theorem yv_arc {post : Int32 → SY → Prop} {A U S L : Nat → Int32} {a b : Nat} {on : Int32} (ha : a < 12) (hb : b < 12) (h : post ((A a >>> (nI b &&& 31)) &&& 1) (il_sw A a b on, U, S, L)) : wpY_arc post (A, U, S, L) (nI a) (nI b) on := by
  unfold wpY_arc
  dsimp only
  refine wv_bYt ha (br_f (by decide) ?_)
  refine wv_bYt hb (br_f (by decide) ?_)
  rw [ib_cl ha]
  refine ⟨ib_in ha, nm_e (br_c (fun e => ⟨ib_in ha, ib_in ha, nm_e ?_⟩) (fun e => ⟨ib_in ha, ib_in ha, nm_e ?_⟩))⟩
  · rw [il_sw_0 e] at h
    exact h
  · rw [il_sw_1 e] at h
    exact h
theorem yv_arc_n {post : Int32 → SY → Prop} {A U S L : Nat → Int32} {x y on : Int32} (hn : ¬ (il_B x ∧ il_B y)) (h : post (-1) (A, U, S, L)) : wpY_arc post (A, U, S, L) x y on := by
  unfold wpY_arc
  dsimp only
  by_cases hx : il_B x
  · have hy : ¬ il_B y := fun z => hn ⟨hx, z⟩
    obtain ⟨a, ha, rfl⟩ := hx
    refine wv_bYt ha (br_f (by decide) ?_)
    exact wv_bYf hy (br_t rfl h)
  · exact wv_bYf hx (br_t rfl h)
theorem xv_use {post : Int32 → SX → Prop} {A U S L : Nat → Int32} {a b : Nat} {on : Int32} (ha : a < 12) (hb : b < 20) (h : ∀ L', (∀ c, c < 12 → L' c = il_fl A (il_sw U a b on) S 12 c) → post ((U a >>> (nI b &&& 31)) &&& 1) (A, il_sw U a b on, S, L')) : wpX_use post (A, U, S, L) (nI a) (nI b) on := by
  unfold wpX_use
  dsimp only
  refine wv_bXt ha (br_f (by decide) ?_)
  refine wv_vXt hb (br_f (by decide) ?_)
  refine wv_mU ha ?_
  exact wv_rX h
theorem xv_use_n {post : Int32 → SX → Prop} {A U S L : Nat → Int32} {x y on : Int32} (hn : ¬ (il_B x ∧ il_V y)) (h : post (-1) (A, U, S, L)) : wpX_use post (A, U, S, L) x y on := by
  unfold wpX_use
  dsimp only
  by_cases hx : il_B x
  · have hy : ¬ il_V y := fun z => hn ⟨hx, z⟩
    obtain ⟨a, ha, rfl⟩ := hx
    refine wv_bXt ha (br_f (by decide) ?_)
    exact wv_vXf hy (br_t rfl h)
  · exact wv_bXf hx (br_t rfl h)
theorem yv_use {post : Int32 → SY → Prop} {A U S L : Nat → Int32} {a b : Nat} {on : Int32} (ha : a < 12) (hb : b < 20) (h : post ((U a >>> (nI b &&& 31)) &&& 1) (A, il_sw U a b on, S, L)) : wpY_use post (A, U, S, L) (nI a) (nI b) on := by
  unfold wpY_use
  dsimp only
  refine wv_bYt ha (br_f (by decide) ?_)
  refine wv_vYt hb (br_f (by decide) ?_)
  rw [ib_cl ha]
  refine ⟨ib_in ha, nm_e (br_c (fun e => ⟨ib_in ha, ib_in ha, nm_e ?_⟩) (fun e => ⟨ib_in ha, ib_in ha, nm_e ?_⟩))⟩
  · rw [il_sw_0 e] at h
    exact h
  · rw [il_sw_1 e] at h
    exact h
theorem yv_use_n {post : Int32 → SY → Prop} {A U S L : Nat → Int32} {x y on : Int32} (hn : ¬ (il_B x ∧ il_V y)) (h : post (-1) (A, U, S, L)) : wpY_use post (A, U, S, L) x y on := by
  unfold wpY_use
  dsimp only
  by_cases hx : il_B x
  · have hy : ¬ il_V y := fun z => hn ⟨hx, z⟩
    obtain ⟨a, ha, rfl⟩ := hx
    refine wv_bYt ha (br_f (by decide) ?_)
    exact wv_vYf hy (br_t rfl h)
  · exact wv_bYf hx (br_t rfl h)
theorem xv_set {post : Int32 → SX → Prop} {A U S L : Nat → Int32} {a b : Nat} {on : Int32} (ha : a < 12) (hb : b < 20) (h : ∀ L', (∀ c, c < 12 → L' c = il_fl A U (il_sw S a b on) 12 c) → post ((S a >>> (nI b &&& 31)) &&& 1) (A, U, il_sw S a b on, L')) : wpX_set post (A, U, S, L) (nI a) (nI b) on := by
  unfold wpX_set
  dsimp only
  refine wv_bXt ha (br_f (by decide) ?_)
  refine wv_vXt hb (br_f (by decide) ?_)
  refine wv_mS ha ?_
  exact wv_rX h
theorem xv_set_n {post : Int32 → SX → Prop} {A U S L : Nat → Int32} {x y on : Int32} (hn : ¬ (il_B x ∧ il_V y)) (h : post (-1) (A, U, S, L)) : wpX_set post (A, U, S, L) x y on := by
  unfold wpX_set
  dsimp only
  by_cases hx : il_B x
  · have hy : ¬ il_V y := fun z => hn ⟨hx, z⟩
    obtain ⟨a, ha, rfl⟩ := hx
    refine wv_bXt ha (br_f (by decide) ?_)
    exact wv_vXf hy (br_t rfl h)
  · exact wv_bXf hx (br_t rfl h)
theorem yv_set {post : Int32 → SY → Prop} {A U S L : Nat → Int32} {a b : Nat} {on : Int32} (ha : a < 12) (hb : b < 20) (h : post ((S a >>> (nI b &&& 31)) &&& 1) (A, U, il_sw S a b on, L)) : wpY_set post (A, U, S, L) (nI a) (nI b) on := by
  unfold wpY_set
  dsimp only
  refine wv_bYt ha (br_f (by decide) ?_)
  refine wv_vYt hb (br_f (by decide) ?_)
  rw [ib_cl ha]
  refine ⟨ib_in ha, nm_e (br_c (fun e => ⟨ib_in ha, ib_in ha, nm_e ?_⟩) (fun e => ⟨ib_in ha, ib_in ha, nm_e ?_⟩))⟩
  · rw [il_sw_0 e] at h
    exact h
  · rw [il_sw_1 e] at h
    exact h
theorem yv_set_n {post : Int32 → SY → Prop} {A U S L : Nat → Int32} {x y on : Int32} (hn : ¬ (il_B x ∧ il_V y)) (h : post (-1) (A, U, S, L)) : wpY_set post (A, U, S, L) x y on := by
  unfold wpY_set
  dsimp only
  by_cases hx : il_B x
  · have hy : ¬ il_V y := fun z => hn ⟨hx, z⟩
    obtain ⟨a, ha, rfl⟩ := hx
    refine wv_bYt ha (br_f (by decide) ?_)
    exact wv_vYf hy (br_t rfl h)
  · exact wv_bYf hx (br_t rfl h)
theorem xv_has {post : Int32 → Prop} {A U S L : Nat → Int32} {a b : Nat} (ha : a < 12) (hb : b < 12) (h : post (if bt (A a) b = true then 1 else 0)) : wpX_hasArc post (A, U, S, L) (nI a) (nI b) := by
  unfold wpX_hasArc
  dsimp only
  refine wv_bXt ha (br_f (by decide) ?_)
  refine wv_bXt hb (br_f (by decide) ?_)
  rw [ib_cl ha]
  refine ⟨ib_in ha, wv_cX (by omega) (fun e => br_t rfl ?_) (fun e => br_f (by decide) ?_)⟩
  · rw [if_neg (by rw [e]; decide)] at h
    exact h
  · rw [if_pos e] at h
    exact h
theorem xv_has_n {post : Int32 → Prop} {A U S L : Nat → Int32} {x y : Int32} (hn : ¬ (il_B x ∧ il_B y)) (h : post 0) : wpX_hasArc post (A, U, S, L) x y := by
  unfold wpX_hasArc
  dsimp only
  by_cases hx : il_B x
  · have hy : ¬ il_B y := fun z => hn ⟨hx, z⟩
    obtain ⟨a, ha, rfl⟩ := hx
    refine wv_bXt ha (br_f (by decide) ?_)
    exact wv_bXf hy (br_t rfl h)
  · exact wv_bXf hx (br_t rfl h)
theorem yv_has {post : Int32 → Prop} {A U S L : Nat → Int32} {a b : Nat} (ha : a < 12) (hb : b < 12) (h : post (if bt (A a) b = true then 1 else 0)) : wpY_hasArc post (A, U, S, L) (nI a) (nI b) := by
  unfold wpY_hasArc
  dsimp only
  refine wv_bYt ha (br_f (by decide) ?_)
  refine wv_bYt hb (br_f (by decide) ?_)
  rw [ib_cl ha]
  refine ⟨ib_in ha, wv_hY (by omega) (fun e => br_t rfl ?_) (fun e => br_f (by decide) ?_)⟩
  · rw [if_neg (by rw [e]; decide)] at h
    exact h
  · rw [if_pos e] at h
    exact h
theorem yv_has_n {post : Int32 → Prop} {A U S L : Nat → Int32} {x y : Int32} (hn : ¬ (il_B x ∧ il_B y)) (h : post 0) : wpY_hasArc post (A, U, S, L) x y := by
  unfold wpY_hasArc
  dsimp only
  by_cases hx : il_B x
  · have hy : ¬ il_B y := fun z => hn ⟨hx, z⟩
    obtain ⟨a, ha, rfl⟩ := hx
    refine wv_bYt ha (br_f (by decide) ?_)
    exact wv_bYf hy (br_t rfl h)
  · exact wv_bYf hx (br_t rfl h)
theorem xv_blk {post : Int32 → SX → Prop} {A U S L : Nat → Int32} {a : Nat} {x y : Int32} (ha : a < 12) (hx : il_W x) (hy : il_W y) (h : ∀ L', (∀ c, c < 12 → L' c = il_fl A (upd U a x) (upd S a y) 12 c) → post 0 (A, upd U a x, upd S a y, L')) : wpX_block post (A, U, S, L) (nI a) x y := by
  unfold wpX_block
  dsimp only
  refine wv_bXt ha (br_f (by decide) ?_)
  refine wv_wXt hx (br_f (by decide) ?_)
  refine wv_wXt hy (br_f (by decide) ?_)
  rw [ib_cl ha]
  refine ⟨ib_in ha, nm_e ⟨ib_in ha, nm_e ?_⟩⟩
  exact wv_rX h
theorem xv_blk_n {post : Int32 → SX → Prop} {A U S L : Nat → Int32} {b x y : Int32} (hn : ¬ (il_B b ∧ il_W x ∧ il_W y)) (h : post (-1) (A, U, S, L)) : wpX_block post (A, U, S, L) b x y := by
  unfold wpX_block
  dsimp only
  by_cases hb : il_B b
  · by_cases hx : il_W x
    · have hy : ¬ il_W y := fun z => hn ⟨hb, hx, z⟩
      obtain ⟨a, ha, rfl⟩ := hb
      refine wv_bXt ha (br_f (by decide) ?_)
      refine wv_wXt hx (br_f (by decide) ?_)
      exact wv_wXf hy (br_t rfl h)
    · obtain ⟨a, ha, rfl⟩ := hb
      refine wv_bXt ha (br_f (by decide) ?_)
      exact wv_wXf hx (br_t rfl h)
  · exact wv_bXf hb (br_t rfl h)
theorem yv_blk {post : Int32 → SY → Prop} {A U S L : Nat → Int32} {a : Nat} {x y : Int32} (ha : a < 12) (hx : il_W x) (hy : il_W y) (h : post 0 (A, upd U a x, upd S a y, L)) : wpY_block post (A, U, S, L) (nI a) x y := by
  unfold wpY_block
  dsimp only
  refine wv_bYt ha (br_f (by decide) (br_f hx.1 (br_f hx.2 (br_f hy.1 (br_t (Int32.not_lt.mp hy.2) ?_)))))
  rw [ib_cl ha]
  exact ⟨ib_in ha, nm_e ⟨ib_in ha, nm_e h⟩⟩
theorem yv_blk_n {post : Int32 → SY → Prop} {A U S L : Nat → Int32} {b x y : Int32} (hn : ¬ (il_B b ∧ il_W x ∧ il_W y)) (h : post (-1) (A, U, S, L)) : wpY_block post (A, U, S, L) b x y := by
  unfold wpY_block
  dsimp only
  by_cases hb : il_B b
  · have hb' := hb
    obtain ⟨a, ha, rfl⟩ := hb
    refine wv_bYt ha (br_f (by decide) (br_c (fun _ => h) (fun x0 => br_c (fun _ => h) (fun x1 => br_c (fun _ => h) (fun y0 => br_c (fun y1 => ?_) (fun _ => h))))))
    exact absurd ⟨hb', ⟨x0, x1⟩, y0, Int32.not_lt.mpr y1⟩ hn
  · exact wv_bYf hb (br_t rfl h)
/-- cutOff's loop: the count and the arcs, the blocks below n done -/
def il_ct (b : Nat) (g0 : Int32) (A0 : Nat → Int32) : Nat → Int32 × (Nat → Int32)
  | 0 => (g0, A0)
  | n + 1 => ((il_ct b g0 A0 n).1 + (((il_ct b g0 A0 n).2 n >>> (nI b &&& 31)) &&& 1), il_sw (il_ct b g0 A0 n).2 n b 0)
def il_cA (A : Nat → Int32) (b : Nat) : Nat → Int32 := (il_ct b (nI (il_cn (bt (A b)) 20)) (upd A b 0) 12).2
def il_cG (A : Nat → Int32) (b : Nat) : Int32 := (il_ct b (nI (il_cn (bt (A b)) 20)) (upd A b 0) 12).1
theorem xv_cut {post : Int32 → SX → Prop} {A U S L : Nat → Int32} {b : Nat} (hb : b < 12) (h : ∀ L', (∀ c, c < 12 → L' c = il_fl (il_cA A b) U S 12 c) → post (il_cG A b) (il_cA A b, U, S, L')) : wpX_cutOff post (A, U, S, L) (nI b) := by
  unfold wpX_cutOff
  dsimp only
  refine wv_bXt hb (br_f (by decide) ?_)
  rw [ib_cl hb]
  refine ⟨ib_in hb, wv_sX ⟨ib_in hb, nm_e ?_⟩⟩
  refine ib_lo (fun n i s => wX_cutOff_28 post (nI b) n s.1 (nI i) s.2 U S L) (il_ct b (nI (il_cn (bt (A b)) 20)) (upd A b 0)) 12 ?_ ?_
  · intro n
    exact br_t ib_e12 (wv_rX h)
  · intro n i hi hn
    refine br_f (ib_12 hi) (wv_mA hi ?_)
    exact nm_e (nm_r (nI_1 i) hn)
theorem xv_cut_n {post : Int32 → SX → Prop} {A U S L : Nat → Int32} {x : Int32} (hn : ¬ il_B x) (h : post (-1) (A, U, S, L)) : wpX_cutOff post (A, U, S, L) x := by
  unfold wpX_cutOff
  dsimp only
  exact wv_bXf hn (br_t rfl h)
theorem yv_cut {post : Int32 → SY → Prop} {A U S L : Nat → Int32} {b : Nat} (hb : b < 12) (h : post (il_cG A b) (il_cA A b, U, S, L)) : wpY_cutOff post (A, U, S, L) (nI b) := by
  unfold wpY_cutOff
  dsimp only
  refine wv_bYt hb (br_f (by decide) ?_)
  rw [ib_cl hb]
  refine ⟨ib_in hb, wv_sY ⟨ib_in hb, nm_e ?_⟩⟩
  refine ib_lo (fun n i s => wY_cutOff_30 post (nI b) n s.1 (nI i) s.2 U S L) (il_ct b (nI (il_cn (bt (A b)) 20)) (upd A b 0)) 12 ?_ ?_
  · intro n
    exact br_t ib_e12 h
  · intro n i hi hn
    have e0 := ib_bit ((il_ct b (nI (il_cn (bt (A b)) 20)) (upd A b 0) i).2 i) (i := b) (by omega)
    have e1 : il_ct b (nI (il_cn (bt (A b)) 20)) (upd A b 0) (i + 1) = ((il_ct b (nI (il_cn (bt (A b)) 20)) (upd A b 0) i).1 + (((il_ct b (nI (il_cn (bt (A b)) 20)) (upd A b 0) i).2 i >>> (nI b &&& 31)) &&& 1), il_sw (il_ct b (nI (il_cn (bt (A b)) 20)) (upd A b 0) i).2 i b 0) := rfl
    rw [e1, e0, il_sw_0 rfl] at hn
    generalize il_ct b (nI (il_cn (bt (A b)) 20)) (upd A b 0) i = s at hn
    refine br_f (ib_12 hi) ⟨ib_in hi, ?_⟩
    rw [ib_cl hi]
    refine wv_hY (by omega) (fun e => br_t rfl ?_) (fun e => br_f (by decide) ?_)
    · rw [if_neg (by rw [e]; decide), Int32.add_zero] at hn
      unfold wY_cutOff_57
      rw [ib_cl hi]
      exact ⟨ib_in hi, ib_in hi, nm_e (nm_r (nI_1 i) hn)⟩
    · rw [if_pos e] at hn
      unfold wY_cutOff_57
      rw [ib_cl hi]
      exact ⟨ib_in hi, ib_in hi, nm_e (nm_r (nI_1 i) hn)⟩
theorem yv_cut_n {post : Int32 → SY → Prop} {A U S L : Nat → Int32} {x : Int32} (hn : ¬ il_B x) (h : post (-1) (A, U, S, L)) : wpY_cutOff post (A, U, S, L) x := by
  unfold wpY_cutOff
  dsimp only
  exact wv_bYf hn (br_t rfl h)
def il_tA (A : Nat → Int32) (b c : Nat) : Nat → Int32 := upd (upd A b (A b ||| A c)) c 0
def il_tG (A : Nat → Int32) (b c : Nat) : Int32 := nI (il_cn (bt (A c &&& (A b ^^^ (-1)))) 20)
theorem xv_tk {post : Int32 → SX → Prop} {A U S L : Nat → Int32} {b c : Nat} (hb : b < 12) (hc : c < 12) (hn : b ≠ c) (h : ∀ L', (∀ d, d < 12 → L' d = il_fl (il_tA A b c) U S 12 d) → post (il_tG A b c) (il_tA A b c, U, S, L')) : wpX_takeOver post (A, U, S, L) (nI b) (nI c) := by
  unfold wpX_takeOver
  dsimp only
  refine wv_bXt hb (br_f (by decide) ?_)
  refine wv_bXt hc (br_f (by decide) ?_)
  refine br_f (fun z => hn ((nI_eq (by omega) (by omega)).mp z)) ?_
  rw [ib_cl hb, ib_cl hc]
  refine ⟨ib_in hc, ib_in hb, wv_sX ⟨ib_in hb, ib_in hc, ib_in hb, nm_e ⟨ib_in hc, nm_e ?_⟩⟩⟩
  exact wv_rX h
theorem xv_tk_n {post : Int32 → SX → Prop} {A U S L : Nat → Int32} {x y : Int32} (hn : ¬ (il_B x ∧ il_B y ∧ x ≠ y)) (h : post (-1) (A, U, S, L)) : wpX_takeOver post (A, U, S, L) x y := by
  unfold wpX_takeOver
  dsimp only
  by_cases hx : il_B x
  · by_cases hy : il_B y
    · have e : x = y := Classical.byContradiction (fun z => hn ⟨hx, hy, z⟩)
      subst e
      obtain ⟨a, ha, rfl⟩ := hx
      refine wv_bXt ha (br_f (by decide) ?_)
      refine wv_bXt ha (br_f (by decide) ?_)
      exact br_t rfl h
    · obtain ⟨a, ha, rfl⟩ := hx
      refine wv_bXt ha (br_f (by decide) ?_)
      exact wv_bXf hy (br_t rfl h)
  · exact wv_bXf hx (br_t rfl h)
theorem yv_tk {post : Int32 → SY → Prop} {A U S L : Nat → Int32} {b c : Nat} (hb : b < 12) (hc : c < 12) (hn : b ≠ c) (h : post (il_tG A b c) (il_tA A b c, U, S, L)) : wpY_takeOver post (A, U, S, L) (nI b) (nI c) := by
  unfold wpY_takeOver
  dsimp only
  refine wv_bYt hb (br_f (by decide) ?_)
  refine wv_bYt hc (br_f (by decide) ?_)
  refine br_f (fun z => hn ((nI_eq (by omega) (by omega)).mp z)) ?_
  rw [ib_cl hb, ib_cl hc]
  exact ⟨ib_in hc, ib_in hb, wv_sY ⟨ib_in hb, ib_in hc, ib_in hb, nm_e ⟨ib_in hc, nm_e h⟩⟩⟩
theorem yv_tk_n {post : Int32 → SY → Prop} {A U S L : Nat → Int32} {x y : Int32} (hn : ¬ (il_B x ∧ il_B y ∧ x ≠ y)) (h : post (-1) (A, U, S, L)) : wpY_takeOver post (A, U, S, L) x y := by
  unfold wpY_takeOver
  dsimp only
  by_cases hx : il_B x
  · by_cases hy : il_B y
    · have e : x = y := Classical.byContradiction (fun z => hn ⟨hx, hy, z⟩)
      subst e
      obtain ⟨a, ha, rfl⟩ := hx
      refine wv_bYt ha (br_f (by decide) ?_)
      refine wv_bYt ha (br_f (by decide) ?_)
      exact br_t rfl h
    · obtain ⟨a, ha, rfl⟩ := hx
      refine wv_bYt ha (br_f (by decide) ?_)
      exact wv_bYf hy (br_t rfl h)
  · exact wv_bYf hx (br_t rfl h)
