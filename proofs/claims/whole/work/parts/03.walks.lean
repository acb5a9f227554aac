/-! the walks of the small methods, each side against one pure picture -/
def il_B (x : Int32) : Prop := ∃ j : Nat, j < 12 ∧ x = nI j
def il_V (x : Int32) : Prop := ∃ j : Nat, j < 20 ∧ x = nI j
def il_W (x : Int32) : Prop := ¬ x < 0 ∧ ¬ 1048575 < x
theorem wv_bXt {post : Int32 → Prop} {a : Nat} (ha : a < 12) (h : post 1) : wpX_isBlock post (nI a) :=
  br_f (nI_pos (by omega)) (br_f (ib_12 ha) h)
theorem wv_bXf {post : Int32 → Prop} {x : Int32} (hx : ¬ il_B x) (h : post 0) : wpX_isBlock post x := by
  by_cases h0 : x < 0
  · exact br_t h0 h
  · obtain ⟨j, hj, rfl⟩ := nI_of h0
    have : ¬ j < 12 := fun z => hx ⟨j, z, rfl⟩
    exact br_f h0 (br_t (nI_le (a := 12) (by omega) hj) h)
theorem wv_vXt {post : Int32 → Prop} {a : Nat} (ha : a < 20) (h : post 1) : wpX_isVariable post (nI a) :=
  br_f (nI_pos (by omega)) (br_f (ib_20 ha) h)
theorem wv_vXf {post : Int32 → Prop} {x : Int32} (hx : ¬ il_V x) (h : post 0) : wpX_isVariable post x := by
  by_cases h0 : x < 0
  · exact br_t h0 h
  · obtain ⟨j, hj, rfl⟩ := nI_of h0
    have : ¬ j < 20 := fun z => hx ⟨j, z, rfl⟩
    exact br_f h0 (br_t (nI_le (a := 20) (by omega) hj) h)
theorem wv_wXt {post : Int32 → Prop} {x : Int32} (hx : il_W x) (h : post 1) : wpX_isVariableSet post x :=
  br_f hx.1 (br_f hx.2 h)
theorem wv_wXf {post : Int32 → Prop} {x : Int32} (hx : ¬ il_W x) (h : post 0) : wpX_isVariableSet post x := by
  by_cases h0 : x < 0
  · exact br_t h0 h
  · by_cases h1 : 1048575 < x
    · exact br_f h0 (br_t h1 h)
    · exact absurd ⟨h0, h1⟩ hx
theorem wv_bYt {post : Int32 → Prop} {u : SY} {a : Nat} (ha : a < 12) (h : post 1) : wpY_isBlock post u (nI a) := by
  obtain ⟨u1, u2, u3, u4⟩ := u
  exact br_f (nI_pos (by omega)) (br_f (nI_nlt (b := a) (a := 11) (by omega) (by omega)) h)
theorem wv_bYf {post : Int32 → Prop} {u : SY} {x : Int32} (hx : ¬ il_B x) (h : post 0) : wpY_isBlock post u x := by
  obtain ⟨u1, u2, u3, u4⟩ := u
  by_cases h0 : x < 0
  · exact br_t h0 h
  · obtain ⟨j, hj, rfl⟩ := nI_of h0
    have : ¬ j < 12 := fun z => hx ⟨j, z, rfl⟩
    exact br_f h0 (br_t (nI_lt (a := 11) (by omega) hj) h)
theorem wv_vYt {post : Int32 → Prop} {u : SY} {a : Nat} (ha : a < 20) (h : post 1) : wpY_isVariable post u (nI a) := by
  obtain ⟨u1, u2, u3, u4⟩ := u
  exact br_f (nI_pos (by omega)) (br_f (nI_nlt (b := a) (a := 19) (by omega) (by omega)) h)
theorem wv_vYf {post : Int32 → Prop} {u : SY} {x : Int32} (hx : ¬ il_V x) (h : post 0) : wpY_isVariable post u x := by
  obtain ⟨u1, u2, u3, u4⟩ := u
  by_cases h0 : x < 0
  · exact br_t h0 h
  · obtain ⟨j, hj, rfl⟩ := nI_of h0
    have : ¬ j < 20 := fun z => hx ⟨j, z, rfl⟩
    exact br_f h0 (br_t (nI_lt (a := 19) (by omega) hj) h)
theorem wv_cX {post : Int32 → Prop} {s : Int32} {m : Nat} (hm : m < 32) (h0 : bt s m = false → post 0) (h1 : bt s m = true → post 1) : wpX_contains post s (nI m) := by
  unfold wpX_contains
  rw [ib_bit s hm]
  cases e : bt s m
  · rw [if_neg (by decide)]
    exact br_t rfl (h0 e)
  · rw [if_pos rfl]
    exact br_f (by decide) (h1 e)
theorem wv_hY {post : Int32 → Prop} {u : SY} {s : Int32} {m : Nat} (hm : m < 32) (h0 : bt s m = false → post 0) (h1 : bt s m = true → post 1) : wpY_has post u s (nI m) := by
  obtain ⟨u1, u2, u3, u4⟩ := u
  unfold wpY_has
  dsimp only
  rw [ib_bit s hm]
  cases e : bt s m
  · rw [if_neg (by decide)]
    exact br_f (by decide) (h0 e)
  · rw [if_pos rfl]
    exact br_t rfl (h1 e)
theorem wv_eX {post : Int32 → Prop} {A U S L : Nat → Int32} {b : Nat} (hb : b < 12) (h : post (il_og (bt (A b)) L 12)) : wpX_liveAtEnd post (A, U, S, L) (nI b) := by
  refine ib_lo (fun n i s => wX_liveAtEnd_4 post (nI b) A U S L n s (nI i)) (il_og (bt (A b)) L) 12 ?_ ?_
  · intro n
    exact br_t ib_e12 h
  · intro n i hi hn
    refine br_f (ib_12 hi) ⟨ib_in hb, ?_⟩
    rw [ib_cl hb]
    refine wv_cX (by omega) (fun e => br_t rfl (nm_r (nI_1 i) ?_)) (fun e => br_f (by decide) ⟨ib_in hi, nm_r ?_ (nm_r (nI_1 i) hn)⟩)
    · rw [il_og_f e] at hn
      exact hn
    · rw [ib_cl hi, il_og_t e]
theorem wv_eY {post : Int32 → Prop} {A U S L : Nat → Int32} {b : Nat} (hb : b < 12) (h : post (il_og (bt (A b)) L 12)) : wpY_behind post (A, U, S, L) (nI b) := by
  refine ib_lo (fun n i s => wY_behind_4 post (nI b) A U S L n s (nI i)) (il_og (bt (A b)) L) 12 ?_ ?_
  · intro n
    exact br_t ib_e12 h
  · intro n i hi hn
    refine br_f (ib_12 hi) ⟨ib_in hb, ?_⟩
    rw [ib_cl hb]
    refine wv_hY (by omega) (fun e => br_t rfl (nm_r (nI_1 i) ?_)) (fun e => br_f (by decide) ⟨ib_in hi, nm_r ?_ (nm_r (nI_1 i) hn)⟩)
    · rw [il_og_f e] at hn
      exact hn
    · rw [ib_cl hi, il_og_t e]
theorem wv_sX {post : Int32 → Prop} {x : Int32} (h : post (nI (il_cn (bt x) 20))) : wpX_size post x := by
  refine ib_lo (fun n i s => wX_size_4 post x n s (nI i)) (fun i => nI (il_cn (bt x) i)) 20 ?_ ?_
  · intro n
    exact br_t ib_e20 h
  · intro n i hi hn
    refine br_f (ib_20 hi) (nm_r ?_ (nm_r (nI_1 i) hn))
    rw [ib_bit x (by omega)]
    show _ = nI (il_cn (bt x) i + (bt x i).toNat)
    cases e : bt x i
    · rw [if_neg (by decide)]
      exact Int32.add_zero _
    · rw [if_pos rfl]
      exact nI_1 _
theorem wv_sY {post : Int32 → Prop} {A U S L : Nat → Int32} {x : Int32} (h : post (nI (il_cn (bt x) 20))) : wpY_sizeOf post (A, U, S, L) x := by
  refine ib_lo (fun n i s => wY_sizeOf_4 post x A U S L n s (nI i)) (fun i => nI (il_cn (bt x) i)) 20 ?_ ?_
  · intro n
    exact br_t ib_e20 h
  · intro n i hi hn
    refine br_f (ib_20 hi) (wv_hY (by omega) (fun e => br_t rfl (nm_r (nI_1 i) ?_)) (fun e => br_f (by decide) (nm_r ?_ (nm_r (nI_1 i) hn))))
    · have z : il_cn (bt x) (i + 1) = il_cn (bt x) i := by
        show il_cn (bt x) i + (bt x i).toNat = _
        rw [e]
        rfl
      rw [z] at hn
      exact hn
    · show _ = nI (il_cn (bt x) i + (bt x i).toNat)
      rw [e]
      exact nI_1 _
/-- the blocks whose set holds v -/
def il_bw (L : Nat → Int32) (v : Nat) : Nat → Int32 := il_og (fun b => bt (L b) v) (fun b => (1 : Int32) <<< (nI b &&& 31))
theorem wv_wXl {post : Int32 → Prop} {A U S L : Nat → Int32} {v : Nat} (hv : v < 20) (h : post (il_bw L v 12)) : wpX_blocksWith__liveAtBegin post (A, U, S, L) (nI v) := by
  refine ib_lo (fun n i s => wX_blocksWith__liveAtBegin_4 post (nI v) A U S L n s (nI i)) (il_bw L v) 12 ?_ ?_
  · intro n
    exact br_t ib_e12 h
  · intro n i hi hn
    refine br_f (ib_12 hi) ⟨ib_in hi, ?_⟩
    rw [ib_cl hi]
    refine wv_cX (by omega) (fun e => br_t rfl (nm_r (nI_1 i) ?_)) (fun e => br_f (by decide) (nm_r (il_og_t (p := fun b => bt (L b) v) e).symm (nm_r (nI_1 i) hn)))
    have z : il_bw L v (i + 1) = il_bw L v i := il_og_f (p := fun b => bt (L b) v) e
    rw [z] at hn
    exact hn
theorem wv_wXs {post : Int32 → Prop} {A U S L : Nat → Int32} {v : Nat} (hv : v < 20) (h : post (il_bw S v 12)) : wpX_blocksWith__setIn post (A, U, S, L) (nI v) := by
  refine ib_lo (fun n i s => wX_blocksWith__setIn_4 post (nI v) A U S L n s (nI i)) (il_bw S v) 12 ?_ ?_
  · intro n
    exact br_t ib_e12 h
  · intro n i hi hn
    refine br_f (ib_12 hi) ⟨ib_in hi, ?_⟩
    rw [ib_cl hi]
    refine wv_cX (by omega) (fun e => br_t rfl (nm_r (nI_1 i) ?_)) (fun e => br_f (by decide) (nm_r (il_og_t (p := fun b => bt (S b) v) e).symm (nm_r (nI_1 i) hn)))
    have z : il_bw S v (i + 1) = il_bw S v i := il_og_f (p := fun b => bt (S b) v) e
    rw [z] at hn
    exact hn
/-- one member switched in a's set -/
def il_sw (A : Nat → Int32) (a b : Nat) (on : Int32) : Nat → Int32 := upd A a (if on = 0 then A a &&& (((1 : Int32) <<< (nI b &&& 31)) ^^^ (-1)) else A a ||| ((1 : Int32) <<< (nI b &&& 31)))
theorem il_sw_0 {A : Nat → Int32} {a b : Nat} {on : Int32} (h : on = 0) : il_sw A a b on = upd A a (A a &&& (((1 : Int32) <<< (nI b &&& 31)) ^^^ (-1))) := by
  unfold il_sw
  rw [if_pos h]
theorem il_sw_1 {A : Nat → Int32} {a b : Nat} {on : Int32} (h : ¬ on = 0) : il_sw A a b on = upd A a (A a ||| ((1 : Int32) <<< (nI b &&& 31))) := by
  unfold il_sw
  rw [if_neg h]
theorem wv_mA {post : Int32 → SX → Prop} {A U S L : Nat → Int32} {a b : Nat} {on : Int32} (ha : a < 12) (h : post ((A a >>> (nI b &&& 31)) &&& 1) (il_sw A a b on, U, S, L)) : wpX_switchMember__arcsFrom post (A, U, S, L) (nI a) (nI b) on := by
  unfold wpX_switchMember__arcsFrom
  dsimp only
  rw [ib_cl ha]
  refine ⟨ib_in ha, nm_e (br_c (fun e => ⟨ib_in ha, ib_in ha, nm_e ?_⟩) (fun e => ⟨ib_in ha, ib_in ha, nm_e ?_⟩))⟩
  · rw [il_sw_0 e] at h
    exact h
  · rw [il_sw_1 e] at h
    exact h
theorem wv_mU {post : Int32 → SX → Prop} {A U S L : Nat → Int32} {a b : Nat} {on : Int32} (ha : a < 12) (h : post ((U a >>> (nI b &&& 31)) &&& 1) (A, il_sw U a b on, S, L)) : wpX_switchMember__usedIn post (A, U, S, L) (nI a) (nI b) on := by
  unfold wpX_switchMember__usedIn
  dsimp only
  rw [ib_cl ha]
  refine ⟨ib_in ha, nm_e (br_c (fun e => ⟨ib_in ha, ib_in ha, nm_e ?_⟩) (fun e => ⟨ib_in ha, ib_in ha, nm_e ?_⟩))⟩
  · rw [il_sw_0 e] at h
    exact h
  · rw [il_sw_1 e] at h
    exact h
theorem wv_mS {post : Int32 → SX → Prop} {A U S L : Nat → Int32} {a b : Nat} {on : Int32} (ha : a < 12) (h : post ((S a >>> (nI b &&& 31)) &&& 1) (A, U, il_sw S a b on, L)) : wpX_switchMember__setIn post (A, U, S, L) (nI a) (nI b) on := by
  unfold wpX_switchMember__setIn
  dsimp only
  rw [ib_cl ha]
  refine ⟨ib_in ha, nm_e (br_c (fun e => ⟨ib_in ha, ib_in ha, nm_e ?_⟩) (fun e => ⟨ib_in ha, ib_in ha, nm_e ?_⟩))⟩
  · rw [il_sw_0 e] at h
    exact h
  · rw [il_sw_1 e] at h
    exact h
