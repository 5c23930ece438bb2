/-! the relation: both keep the same sets of columns, all below 128; the work arrays are free -/
def i_Rel (k : Nat) (u : SX) (v : SY) : Prop := u.1 = v.1 ∧ ∃ g, dm_G g u.1
theorem dm_rel {k : Nat} {g : Nat → Nat} {cols most usab can thn good : Nat → Int32} (hg : dm_G g cols) : i_Rel k (cols, most, usab) (cols, can, thn, good) := ⟨rfl, g, hg⟩
theorem dm_G_u {g : Nat → Nat} {a : Nat → Int32} {r s : Nat} (hs : s < 128) (hg : dm_G g a) : dm_G (fun j => if j = r then s else g j) (upd a r (nI s)) := by
  intro j hj
  dsimp only
  by_cases h : j = r
  · rw [h, pk_us, if_pos rfl]
    exact ⟨rfl, hs⟩
  · rw [pk_un h, if_neg h]
    exact hg j hj
theorem dm_cases (x : Int32) : (x < 0 ∨ (7 : Int32) ≤ x) ∨ ∃ j : Nat, j < 7 ∧ x = nI j := by
  rcases dm_ix x with h | h | h
  · exact Or.inl (Or.inl h)
  · exact Or.inl (Or.inr h)
  · exact Or.inr h
theorem i_up {k : Nat} {u : SX} {v : SY} (h : i_Rel k u v) : i_Rel (k + 4) u v := h
theorem i_vc0 : wpX_init (fun u => wpY_init (fun v => i_Rel 0 u v)) := by
  exact ⟨rfl, fun _ => 0, fun j _ => ⟨rfl, (by decide : (0 : Nat) < 128)⟩⟩
theorem i_vc_edge {k : Nat} {u : SX} {v : SY} (I : i_Rel k u v) (hk : k + 4 ≤ 2048) (v1 : Int32) (v2 : Int32) (v3 : Int32) : wpX_edge (fun r u' => wpY_edge (fun r' v' => r' = r ∧ i_Rel (k + 4) u' v') v v1 v2 (lw_bz v3)) u v1 v2 (lw_bz v3) := by
  obtain ⟨cols, most, usab⟩ := u
  obtain ⟨rows, can, thn, good⟩ := v
  obtain ⟨h, g, hg⟩ := I
  cases (h : cols = rows)
  have hg : dm_G g cols := hg
  rcases dm_cases v1 with h1 | ⟨r, hr, rfl⟩
  · unfold wpX_edge
    dsimp only
    refine dm_out h1 ?_
    unfold wpY_edge
    dsimp only
    exact dm_outY h1 ⟨rfl, dm_rel hg⟩
  rcases dm_cases v2 with h2 | ⟨c, hc, rfl⟩
  · unfold wpX_edge
    dsimp only
    refine dm_ins hr (dm_out h2 ?_)
    unfold wpY_edge
    dsimp only
    exact dm_insY hr (dm_outY h2 ⟨rfl, dm_rel hg⟩)
  have hl := (hg r hr).2
  rcases lw_bz_01 v3 with e | e
  · have eu : upd cols (nI r).toNatClampNeg ((cols (nI r).toNatClampNeg) &&& (((1 : Int32) <<< (nI c &&& 31)) ^^^ (-1))) = upd cols r (nI (dm_an (g r) c)) := by rw [dm_cl (by omega), (hg r hr).1, dm_san c (by omega) _ hl]
    unfold wpX_edge
    dsimp only
    refine dm_ins hr (dm_ins hc (br_t e ⟨dm_i7 hr, dm_i7 hr, nm_r eu ?_⟩))
    unfold wpY_edge
    dsimp only
    exact dm_insY hr (dm_insY hc (br_t e ⟨dm_i7 hr, dm_i7 hr, nm_r eu ⟨rfl, dm_rel (dm_G_u (dm_an_lt hl) hg)⟩⟩))
  · have e0 : ¬ lw_bz v3 = 0 := by rw [e]; decide
    have eu : upd cols (nI r).toNatClampNeg ((cols (nI r).toNatClampNeg) ||| ((1 : Int32) <<< (nI c &&& 31))) = upd cols r (nI (g r ||| 2 ^ c)) := by rw [dm_cl (by omega), (hg r hr).1, dm_sor hc]
    unfold wpX_edge
    dsimp only
    refine dm_ins hr (dm_ins hc (br_f e0 ⟨dm_i7 hr, dm_i7 hr, nm_r eu ?_⟩))
    unfold wpY_edge
    dsimp only
    exact dm_insY hr (dm_insY hc (br_f e0 ⟨dm_i7 hr, dm_i7 hr, nm_r eu ⟨rfl, dm_rel (dm_G_u (dm_or_lt hl (dm_p2 hc)) hg)⟩⟩))
theorem i_vc_row {k : Nat} {u : SX} {v : SY} (I : i_Rel k u v) (hk : k + 4 ≤ 2048) (v1 : Int32) (v2 : Int32) : wpX_row (fun r u' => wpY_row (fun r' v' => r' = r ∧ i_Rel (k + 4) u' v') v v1 v2) u v1 v2 := by
  obtain ⟨cols, most, usab⟩ := u
  obtain ⟨rows, can, thn, good⟩ := v
  obtain ⟨h, g, hg⟩ := I
  cases (h : cols = rows)
  have hg : dm_G g cols := hg
  rcases dm_cases v1 with h1 | ⟨r, hr, rfl⟩
  · unfold wpX_row
    dsimp only
    refine dm_out h1 ?_
    unfold wpY_row
    dsimp only
    exact dm_outY h1 ⟨rfl, dm_rel hg⟩
  unfold wpX_row
  dsimp only
  rcases pk_ix v2 (n := 128) (by decide) with h2 | h2 | ⟨s, hs, rfl⟩
  · refine dm_ins hr (br_t h2 ?_)
    unfold wpY_row
    dsimp only
    exact dm_insY hr (br_t h2 ⟨rfl, dm_rel hg⟩)
  · have h0 : ¬ v2 < 0 := Int32.not_lt.mpr (Int32.le_trans (by decide : (0 : Int32) ≤ nI 128) h2)
    have h3 : ¬ v2 ≤ 127 := Int32.not_le.mpr (Int32.lt_of_lt_of_le (by decide : (127 : Int32) < nI 128) h2)
    refine dm_ins hr (br_f h0 (br_f h3 ?_))
    unfold wpY_row
    dsimp only
    exact dm_insY hr (br_f h0 (br_f h3 ⟨rfl, dm_rel hg⟩))
  · have h0 : ¬ nI s < 0 := nI_pos (by omega)
    have h3 : nI s ≤ 127 := nI_le (b := 127) (by omega) (by decide)
    have eu : upd cols (nI r).toNatClampNeg (nI s) = upd cols r (nI s) := by rw [dm_cl (by omega)]
    refine dm_ins hr (br_f h0 (br_t h3 ⟨dm_i7 hr, nm_r eu ?_⟩))
    unfold wpY_row
    dsimp only
    exact dm_insY hr (br_f h0 (br_t h3 ⟨dm_i7 hr, nm_r eu ⟨rfl, dm_rel (dm_G_u hs hg)⟩⟩))
theorem i_vc_columnsOf {k : Nat} {u : SX} {v : SY} (I : i_Rel k u v) (hk : k + 4 ≤ 2048) (v1 : Int32) : wpX_columnsOf (fun r => wpY_columnsOf (fun r' => r' = r ∧ i_Rel (k + 4) u v) v v1) u v1 := by
  obtain ⟨cols, most, usab⟩ := u
  obtain ⟨rows, can, thn, good⟩ := v
  obtain ⟨h, g, hg⟩ := I
  cases (h : cols = rows)
  have hg : dm_G g cols := hg
  rcases dm_cases v1 with h1 | ⟨r, hr, rfl⟩
  · unfold wpX_columnsOf
    dsimp only
    refine dm_out h1 ?_
    unfold wpY_columnsOf
    dsimp only
    exact dm_outY h1 ⟨rfl, dm_rel hg⟩
  · unfold wpX_columnsOf
    dsimp only
    refine dm_ins hr ⟨dm_i7 hr, ?_⟩
    unfold wpY_columnsOf
    dsimp only
    exact dm_insY hr ⟨dm_i7 hr, rfl, dm_rel hg⟩
theorem i_vc_largest {k : Nat} {u : SX} {v : SY} (I : i_Rel k u v) (hk : k + 4 ≤ 2048) : wpX_largest (fun r u' => wpY_largest (fun r' v' => r' = r ∧ i_Rel (k + 4) u' v') v) u := by
  obtain ⟨cols, most, usab⟩ := u
  obtain ⟨rows, can, thn, good⟩ := v
  obtain ⟨h, g, hg⟩ := I
  cases (h : cols = rows)
  have hg : dm_G g cols := hg
  unfold wpX_largest
  dsimp only
  refine dm_m1 hg (fun most' => ?_)
  dsimp only
  exact dm_yL hg (fun can' thn' => ⟨rfl, dm_rel hg⟩)
theorem i_vc_looseRows {k : Nat} {u : SX} {v : SY} (I : i_Rel k u v) (hk : k + 4 ≤ 2048) : wpX_looseRows (fun r u' => wpY_looseRows (fun r' v' => r' = r ∧ i_Rel (k + 4) u' v') v) u := by
  obtain ⟨cols, most, usab⟩ := u
  obtain ⟨rows, can, thn, good⟩ := v
  obtain ⟨h, g, hg⟩ := I
  cases (h : cols = rows)
  have hg : dm_G g cols := hg
  unfold wpX_looseRows
  dsimp only
  refine dm_m1 hg (fun most' => ⟨7 + 1, dm_xlr hg (fun most2 => ?_) 7 0 0 most' rfl rfl⟩)
  unfold wpY_looseRows
  dsimp only
  exact dm_yL hg (fun can' thn' => ⟨7 + 1, dm_ylr hg (fun can2 thn2 => ⟨rfl, dm_rel hg⟩) 7 0 0 can' thn' rfl rfl⟩)
theorem i_vc_looseColumns {k : Nat} {u : SX} {v : SY} (I : i_Rel k u v) (hk : k + 4 ≤ 2048) : wpX_looseColumns (fun r u' => wpY_looseColumns (fun r' v' => r' = r ∧ i_Rel (k + 4) u' v') v) u := by
  obtain ⟨cols, most, usab⟩ := u
  obtain ⟨rows, can, thn, good⟩ := v
  obtain ⟨h, g, hg⟩ := I
  cases (h : cols = rows)
  have hg : dm_G g cols := hg
  unfold wpX_looseColumns
  dsimp only
  refine dm_m1 hg (fun most' => ⟨7 + 1, dm_xlc hg (fun most2 => ?_) 7 0 0 most' rfl rfl⟩)
  unfold wpY_looseColumns
  dsimp only
  exact dm_yL hg (fun can' thn' => ⟨7 + 1, dm_ylc hg (fun can2 thn2 => ⟨rfl, dm_rel hg⟩) 7 0 0 can' thn' rfl rfl⟩)
theorem i_vc_usable {k : Nat} {u : SX} {v : SY} (I : i_Rel k u v) (hk : k + 4 ≤ 2048) (v1 : Int32) : wpX_usable (fun r u' => wpY_usable (fun r' v' => r' = r ∧ i_Rel (k + 4) u' v') v v1) u v1 := by
  obtain ⟨cols, most, usab⟩ := u
  obtain ⟨rows, can, thn, good⟩ := v
  obtain ⟨h, g, hg⟩ := I
  cases (h : cols = rows)
  have hg : dm_G g cols := hg
  rcases dm_cases v1 with h1 | ⟨r, hr, rfl⟩
  · unfold wpX_usable
    dsimp only
    refine dm_out h1 ?_
    unfold wpY_usable
    dsimp only
    exact dm_outY h1 ⟨rfl, dm_rel hg⟩
  unfold wpX_usable
  dsimp only
  refine dm_ins hr (dm_xu hg hr (fun most' => ?_))
  dsimp only
  unfold wpY_usable
  dsimp only
  refine dm_insY hr (dm_yL hg (fun can' thn' => ?_))
  dsimp only
  exact dm_yu hg hr (fun can2 thn2 => ⟨rfl, dm_rel hg⟩)
theorem i_vc_forced {k : Nat} {u : SX} {v : SY} (I : i_Rel k u v) (hk : k + 4 ≤ 2048) (v1 : Int32) : wpX_forced (fun r u' => wpY_forced (fun r' v' => r' = r ∧ i_Rel (k + 4) u' v') v v1) u v1 := by
  obtain ⟨cols, most, usab⟩ := u
  obtain ⟨rows, can, thn, good⟩ := v
  obtain ⟨h, g, hg⟩ := I
  cases (h : cols = rows)
  have hg : dm_G g cols := hg
  rcases dm_cases v1 with h1 | ⟨r, hr, rfl⟩
  · unfold wpX_forced
    dsimp only
    refine dm_out h1 ?_
    unfold wpY_forced
    dsimp only
    exact dm_outY h1 ⟨rfl, dm_rel hg⟩
  refine dm_xfo hg hr (fun most' => ?_)
  unfold wpY_forced
  dsimp only
  refine dm_insY hr (dm_yL hg (fun can' thn' => ?_))
  exact ⟨7 + 1, dm_yf20 hg hr (fun can2 thn2 => ⟨rfl, dm_rel hg⟩) 7 0 0 can' thn' rfl rfl⟩
theorem i_vc_blocks {k : Nat} {u : SX} {v : SY} (I : i_Rel k u v) (hk : k + 4 ≤ 2048) : wpX_blocks (fun r u' => wpY_blocks (fun r' v' => r' = r ∧ i_Rel (k + 4) u' v') v) u := by
  obtain ⟨cols, most, usab⟩ := u
  obtain ⟨rows, can, thn, good⟩ := v
  obtain ⟨h, g, hg⟩ := I
  cases (h : cols = rows)
  have hg : dm_G g cols := hg
  unfold wpX_blocks
  dsimp only
  refine dm_fu hg (fun most' usab' hU => ?_)
  refine ⟨7 + 1, dm_xb10 hU ?_ 7 0 rfl⟩
  unfold wpY_blocks
  dsimp only
  refine dm_yg hg (fun can' thn' good' hV => ?_)
  refine ⟨7 + 1, dm_yb8 hV ?_ 7 0 rfl⟩
  exact ⟨congrArg nI (dm_xyq (dm_G_lt hU)), dm_rel hg⟩
theorem i_vc_blockRows {k : Nat} {u : SX} {v : SY} (I : i_Rel k u v) (hk : k + 4 ≤ 2048) (v1 : Int32) : wpX_blockRows (fun r u' => wpY_blockRows (fun r' v' => r' = r ∧ i_Rel (k + 4) u' v') v v1) u v1 := by
  obtain ⟨cols, most, usab⟩ := u
  obtain ⟨rows, can, thn, good⟩ := v
  obtain ⟨h, g, hg⟩ := I
  cases (h : cols = rows)
  have hg : dm_G g cols := hg
  rcases dm_cases v1 with h1 | ⟨r, hr, rfl⟩
  · unfold wpX_blockRows
    dsimp only
    refine dm_out h1 ?_
    unfold wpY_blockRows
    dsimp only
    exact dm_outY h1 ⟨rfl, dm_rel hg⟩
  unfold wpX_blockRows
  dsimp only
  refine dm_ins hr (dm_fu hg (fun most' usab' hU => ?_))
  dsimp only
  refine dm_rj hU hr ?_
  unfold wpY_blockRows
  dsimp only
  refine dm_insY hr (dm_yg hg (fun can' thn' good' hV => ?_))
  have eg : good' (nI r).toNatClampNeg = nI (dm_us g r) := by rw [dm_cl (by omega), (hV r hr).1]
  have hl := dm_us_lt g r
  refine ⟨dm_i7 hr, pk_eq (dm_us g r) 0 (fun z => ?_) (fun z => ?_) eg⟩
  · rw [dm_xr_0 z]
    exact ⟨rfl, dm_rel hg⟩
  · refine dm_bo hV hr ?_
    rw [dm_xy (dm_G_lt hU) hr z]
    exact ⟨rfl, dm_rel hg⟩
theorem i_vc_cover {k : Nat} {u : SX} {v : SY} (I : i_Rel k u v) (hk : k + 4 ≤ 2048) : wpX_cover (fun r => wpY_cover (fun r' => r' = r ∧ i_Rel (k + 4) u v) v) u := by
  obtain ⟨cols, most, usab⟩ := u
  obtain ⟨rows, can, thn, good⟩ := v
  obtain ⟨h, g, hg⟩ := I
  cases (h : cols = rows)
  have hg : dm_G g cols := hg
  exact ⟨128 + 1, dm_xc5 hg ⟨128 + 1, dm_yc5 hg ⟨rfl, dm_rel hg⟩ 128 0 rfl⟩ 128 0 rfl⟩
