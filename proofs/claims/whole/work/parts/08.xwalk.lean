/-! the component's other methods -/
def dm_lr (g : Nat → Nat) : Nat → Bool := fun r => decide (dm_R g r = dm_L g)
def dm_lc (g : Nat → Nat) : Nat → Bool := fun c => decide (dm_C g c = dm_L g)
def dm_up8 (g : Nat → Nat) (r : Nat) : Nat → Bool := fun c => (g r).testBit c && decide (dm_RC g r c + 1 = dm_L g)
def dm_fp8 (g : Nat → Nat) (r : Nat) : Nat → Bool := fun c => (g r).testBit c && decide (dm_Ed g r c < dm_L g)
theorem dm_bs_e {p : Nat → Bool} {k : Nat} {x : Int32} (hx : x = nI (dm_bs p k)) (h : p k = false) : x = nI (dm_bs p (k + 1)) := by
  rw [dm_bs_f h]
  exact hx
theorem dm_bs_i {p : Nat → Bool} {k : Nat} {x : Int32} (hk : k < 7) (hx : x = nI (dm_bs p k)) (h : p k = true) : x ||| ((1 : Int32) <<< (nI k &&& 31)) = nI (dm_bs p (k + 1)) := by
  rw [hx]
  exact dm_bs_t hk h
theorem dm_hasE {A B : Prop} {x : Int32} {s c : Nat} (hx : x = nI s) (hs : s < 128) (hc : c < 7) (f : s.testBit c = false → A) (t : s.testBit c = true → B) : wpX_has (fun r => (r = 0 → A) ∧ (¬ r = 0 → B)) x (nI c) := by
  subst hx
  exact dm_has hs hc f t
theorem dm_xlr {post : Int32 → SX → Prop} {g : Nat → Nat} {cols usab : Nat → Int32} (hg : dm_G g cols) (K : ∀ most, post (nI (dm_bs (dm_lr g) 7)) (cols, most, usab)) :
    ∀ d k x2 most, k + d = 7 → x2 = nI (dm_bs (dm_lr g) k) → wX_looseRows_13 post (nI (dm_L g)) (d + 1) x2 (nI k) cols most usab := by
  intro d
  induction d with
  | zero =>
    intro k x2 most hk hx
    obtain rfl : k = 7 := by omega
    subst hx
    exact dm_g7 (K most)
  | succ d ih =>
    intro k x2 most hk hx
    have hk7 : k < 7 := by omega
    have b1 : dm_R g k ≤ 7 := dm_nu_7 _
    have b2 : dm_L g ≤ 7 := dm_nu_7 _
    exact dm_l7 hk7 (dm_m2 hg hk7 (fun most' => pk_eq (dm_R g k) (dm_L g)
      (fun z => nm_r (dm_bs_i hk7 hx (decide_eq_true z)) (nm_r (nI_1 k) (ih (k + 1) _ most' (by omega) rfl)))
      (fun z => nm_r (nI_1 k) (ih (k + 1) x2 most' (by omega) (dm_bs_e hx (decide_eq_false z))))))
theorem dm_xlc {post : Int32 → SX → Prop} {g : Nat → Nat} {cols usab : Nat → Int32} (hg : dm_G g cols) (K : ∀ most, post (nI (dm_bs (dm_lc g) 7)) (cols, most, usab)) :
    ∀ d k x2 most, k + d = 7 → x2 = nI (dm_bs (dm_lc g) k) → wX_looseColumns_13 post (nI (dm_L g)) (d + 1) x2 (nI k) cols most usab := by
  intro d
  induction d with
  | zero =>
    intro k x2 most hk hx
    obtain rfl : k = 7 := by omega
    subst hx
    exact dm_g7 (K most)
  | succ d ih =>
    intro k x2 most hk hx
    have hk7 : k < 7 := by omega
    have b1 : dm_C g k ≤ 7 := dm_nu_7 _
    have b2 : dm_L g ≤ 7 := dm_nu_7 _
    exact dm_l7 hk7 (dm_m3 hg hk7 (fun most' => pk_eq (dm_C g k) (dm_L g)
      (fun z => nm_r (dm_bs_i hk7 hx (decide_eq_true z)) (nm_r (nI_1 k) (ih (k + 1) _ most' (by omega) rfl)))
      (fun z => nm_r (nI_1 k) (ih (k + 1) x2 most' (by omega) (dm_bs_e hx (decide_eq_false z))))))
theorem dm_xu14 {post : Int32 → SX → Prop} {g : Nat → Nat} {r : Nat} {cols usab : Nat → Int32} (hg : dm_G g cols) (hr : r < 7) (K : ∀ most, post (nI (dm_us g r)) (cols, most, usab)) :
    ∀ d k x3 most, k + d = 7 → x3 = nI (dm_bs (dm_up8 g r) k) → wX_usableColumns_14 post (nI r) (nI (dm_L g)) (d + 1) x3 (nI k) cols most usab := by
  intro d
  induction d with
  | zero =>
    intro k x3 most hk hx
    obtain rfl : k = 7 := by omega
    subst hx
    exact dm_g7 (K most)
  | succ d ih =>
    intro k x3 most hk hx
    have hk7 : k < 7 := by omega
    have b1 : dm_RC g r k ≤ 7 := dm_nu_7 _
    have b2 : dm_L g ≤ 7 := dm_nu_7 _
    have ec : cols (nI r).toNatClampNeg = nI (g r) := by rw [dm_cl (by omega), (hg r hr).1]
    refine dm_l7 hk7 ⟨dm_i7 hr, dm_hasE ec (hg r hr).2 hk7 (fun hb => nm_r (nI_1 k) (ih (k + 1) x3 most (by omega) (dm_bs_e hx ?_))) (fun hb => dm_m4 hg hr hk7 (fun most' => ?_))⟩
    · show ((g r).testBit k && _) = false
      rw [hb]
      rfl
    · have h1 := dm_RC_le g hr hk7 hb
      refine pk_eq (dm_RC g r k) (dm_L g - 1) (fun z => nm_r (dm_bs_i hk7 hx ?_) (nm_r (nI_1 k) (ih (k + 1) _ most' (by omega) rfl))) (fun z => nm_r (nI_1 k) (ih (k + 1) x3 most' (by omega) (dm_bs_e hx ?_))) rfl (pk_sub (b := 1) (by omega))
      · show ((g r).testBit k && _) = true
        rw [hb, decide_eq_true (by omega)]
        rfl
      · show ((g r).testBit k && _) = false
        rw [hb, decide_eq_false (by omega)]
        rfl
theorem dm_xu {post : Int32 → SX → Prop} {g : Nat → Nat} {r : Nat} {cols most usab : Nat → Int32} (hg : dm_G g cols) (hr : r < 7) (K : ∀ most, post (nI (dm_us g r)) (cols, most, usab)) : wpX_usableColumns post (cols, most, usab) (nI r) := by
  unfold wpX_usableColumns
  dsimp only
  exact dm_m1 hg (fun most' => ⟨7 + 1, dm_xu14 hg hr K 7 0 0 most' rfl rfl⟩)
theorem dm_co4 {post : Int32 → Prop} {s : Nat} (hs : s < 128) (K : post (nI (dm_ct s))) :
    ∀ d k, k + d = 7 → wX_countOf_4 post (nI s) (d + 1) (nI (dm_nb (fun i => s.testBit i) k)) (nI k) := by
  intro d
  induction d with
  | zero =>
    intro k hk
    obtain rfl : k = 7 := by omega
    rw [dm_nb_ct s hs]
    exact dm_g7 K
  | succ d ih =>
    intro k hk
    have hk7 : k < 7 := by omega
    refine dm_l7 hk7 (nm_r (e' := nI (dm_nb (fun i => s.testBit i) (k + 1))) ?_ (nm_r (nI_1 k) (ih (k + 1) (by omega))))
    rw [dm_sbt k hk7 s hs]
    by_cases hb : s.testBit k = true
    · rw [if_pos hb, dm_nb_t (p := fun i => s.testBit i) hb, nI_1]
    · rw [if_neg hb, dm_nb_f (p := fun i => s.testBit i) (by cases h : s.testBit k with | false => rfl | true => exact absurd h hb), Int32.add_zero]
theorem dm_co {post : Int32 → Prop} {s : Nat} (hs : s < 128) (K : post (nI (dm_ct s))) : wpX_countOf post (nI s) := ⟨7 + 1, dm_co4 hs K 7 0 rfl⟩
theorem dm_xfo {post : Int32 → SX → Prop} {g : Nat → Nat} {r : Nat} {cols most usab : Nat → Int32} (hg : dm_G g cols) (hr : r < 7) (K : ∀ most, post (nI (dm_fo g r)) (cols, most, usab)) : wpX_forced post (cols, most, usab) (nI r) := by
  have b1 : dm_R g r ≤ 7 := dm_nu_7 _
  have b2 : dm_L g ≤ 7 := dm_nu_7 _
  have h7 := dm_ct_7 (dm_us g r)
  rw [dm_fo_eq g hr] at K
  unfold wpX_forced
  dsimp only
  refine dm_ins hr (dm_m2 hg hr (fun most' => dm_m1 hg (fun most2 => pk_eq (dm_R g r) (dm_L g) (fun z => ?_) (fun z => dm_xu hg hr (fun most3 => dm_co (dm_us_lt g r) (pk_eq (dm_ct (dm_us g r)) 1 (fun y => ?_) (fun y => ?_)))))))
  · rw [if_pos z] at K
    exact K most2
  · rw [if_neg z, if_pos y] at K
    exact K most3
  · rw [if_neg z, if_neg y] at K
    exact K most3
theorem dm_fu2 {post : SX → Prop} {g : Nat → Nat} {cols : Nat → Int32} (hg : dm_G g cols) (K : ∀ most usab, dm_G (dm_us g) usab → post (cols, most, usab)) :
    ∀ d k most usab, k + d = 7 → (∀ j, j < k → usab j = nI (dm_us g j)) → wX_findUsable_2 post (d + 1) (nI k) cols most usab := by
  intro d
  induction d with
  | zero =>
    intro k most usab hk hI
    obtain rfl : k = 7 := by omega
    exact dm_g7 (K most usab (fun j hj => ⟨hI j hj, dm_us_lt g j⟩))
  | succ d ih =>
    intro k most usab hk hI
    have hk7 : k < 7 := by omega
    refine dm_l7 hk7 (dm_xu hg hk7 (fun most' => ⟨dm_i7 hk7, nm_e (nm_r (nI_1 k) (ih (k + 1) most' _ (by omega) (fun j hj => ?_)))⟩))
    rw [dm_cl (by omega)]
    by_cases h : j = k
    · rw [h, pk_us]
    · rw [pk_un h]
      exact hI j (by omega)
theorem dm_fu {post : SX → Prop} {g : Nat → Nat} {cols most usab : Nat → Int32} (hg : dm_G g cols) (K : ∀ most usab, dm_G (dm_us g) usab → post (cols, most, usab)) : wpX_findUsable post (cols, most, usab) :=
  ⟨7 + 1, dm_fu2 hg K 7 0 most usab rfl (fun j hj => absurd hj (by omega))⟩
/-! rows joined to row r -/
theorem dm_G_lt {U : Nat → Nat} {a : Nat → Int32} (h : dm_G U a) : ∀ k, k < 7 → U k < 128 := fun k hk => (h k hk).2
theorem dm_rj22 {post : Int32 → Prop} {J12 : Int32 → Int32 → Int32 → Prop} {U : Nat → Nat} {r p R0 : Nat} {cols most usab : Nat → Int32} (hU : dm_G U usab)
    (K : J12 (nI (dm_ps (dm_xs U r) 7 R0)) (nI (dm_cu U r (dm_ps (dm_xs U r) 7 R0) 7)) (nI (p + 1))) :
    ∀ d o R, o + d = 7 → dm_ps (dm_xs U r) o R0 = R → wX_rowsJoinedTo_22 post J12 (nI p) cols most usab (d + 1) (nI R) (nI (dm_cu U r R 7)) (nI o) := by
  intro d
  induction d with
  | zero =>
    intro o R ho hR
    obtain rfl : o = 7 := by omega
    subst hR
    exact dm_g7 (nm_r (nI_1 p) K)
  | succ d ih =>
    intro o R ho hR
    have ho7 : o < 7 := by omega
    have eu : usab (nI o).toNatClampNeg = nI (U o) := by rw [dm_cl (by omega), (hU o ho7).1]
    have hl : U o &&& dm_cu U r R 7 < 128 := Nat.lt_of_le_of_lt Nat.and_le_left (hU o ho7).2
    have es : dm_ps (dm_xs U r) (o + 1) R0 = if U o &&& dm_cu U r R 7 ≠ 0 then R ||| 2 ^ o else R := by rw [← hR]; rfl
    refine dm_l7 ho7 ⟨dm_i7 ho7, pk_eq (U o &&& dm_cu U r R 7) 0 (fun z => nm_r (nI_1 o) (ih (o + 1) R (by omega) ?_)) (fun z => nm_r (dm_sor ho7) ⟨dm_i7 ho7, nm_r (e' := nI (dm_cu U r (R ||| 2 ^ o) 7)) ?_ (nm_r (nI_1 o) (ih (o + 1) (R ||| 2 ^ o) (by omega) ?_))⟩) (by rw [eu, nx_and])⟩
    · rw [es, if_neg (fun y => y z)]
    · rw [eu, dm_or, dm_cu_or U r R ho7]
    · rw [es, if_pos z]
theorem dm_rj12 {post : Int32 → Prop} {U : Nat → Nat} {r : Nat} {cols most usab : Nat → Int32} (hU : dm_G U usab) (K : post (nI (dm_xr U r))) :
    ∀ d p R, p + d = 7 → dm_it (dm_ps (dm_xs U r) 7) p 0 = R → wX_rowsJoinedTo_12 post cols most usab (d + 1) (nI R) (nI (dm_cu U r R 7)) (nI p) := by
  intro d
  induction d with
  | zero =>
    intro p R hp hR
    obtain rfl : p = 7 := by omega
    subst hR
    exact dm_g7 K
  | succ d ih =>
    intro p R hp hR
    have hp7 : p < 7 := by omega
    refine dm_l7 hp7 ⟨7 + 1, dm_rj22 hU (ih (p + 1) _ (by omega) ?_) 7 0 R rfl rfl⟩
    rw [← hR]
    rfl
theorem dm_rj {post : Int32 → Prop} {U : Nat → Nat} {r : Nat} {cols most usab : Nat → Int32} (hU : dm_G U usab) (hr : r < 7) (K : post (nI (dm_xr U r))) : wpX_rowsJoinedTo post (cols, most, usab) (nI r) := by
  refine ⟨dm_i7 hr, nm_r (e' := nI (dm_cu U r 0 7)) ?_ ⟨7 + 1, dm_rj12 hU K 7 0 0 rfl rfl⟩⟩
  rw [dm_cl (by omega), (hU r hr).1, dm_cu_0]
def dm_xq (U : Nat → Nat) : Nat → Bool := fun k => decide (U k ≠ 0 ∧ (dm_sn U k).testBit k = false)
theorem dm_xb10 {post : Int32 → SX → Prop} {U : Nat → Nat} {cols most usab : Nat → Int32} (hU : dm_G U usab) (K : post (nI (dm_nb (dm_xq U) 7)) (cols, most, usab)) :
    ∀ d k, k + d = 7 → wX_blocks_10 post cols most usab (d + 1) (nI (dm_nb (dm_xq U) k)) (nI (dm_sn U k)) (nI k) := by
  intro d
  induction d with
  | zero =>
    intro k hk
    obtain rfl : k = 7 := by omega
    exact dm_g7 K
  | succ d ih =>
    intro k hk
    have hk7 : k < 7 := by omega
    have eu : usab (nI k).toNatClampNeg = nI (U k) := by rw [dm_cl (by omega), (hU k hk7).1]
    have hl := (hU k hk7).2
    have hskip : ¬ (U k ≠ 0 ∧ (dm_sn U k).testBit k = false) → ∀ x, x = nI k + 1 → wX_blocks_10 post cols most usab (d + 1) (nI (dm_nb (dm_xq U) k)) (nI (dm_sn U k)) x := by
      intro hn
      refine nm_r (nI_1 k) ?_
      have h := ih (k + 1) (by omega)
      rw [dm_nb_f (p := dm_xq U) (decide_eq_false hn), dm_sn_s, if_neg hn] at h
      exact h
    refine dm_l7 hk7 ⟨dm_i7 hk7, pk_eq (U k) 0 (fun z => hskip (fun y => y.1 z)) (fun z => dm_has (dm_sn_lt U k) hk7 (fun hb => ?_) (fun hb => hskip (fun y => ?_))) eu⟩
    · refine nm_r (nI_1 _) (dm_rj hU hk7 (nm_r (dm_or _ _) (nm_r (nI_1 k) ?_)))
      have h := ih (k + 1) (by omega)
      rw [dm_nb_t (p := dm_xq U) (decide_eq_true ⟨z, hb⟩), dm_sn_s, if_pos ⟨z, hb⟩] at h
      exact h
    · rw [hb] at y
      exact absurd y.2 (by decide)
/-! covers -/
def dm_oc (g : Nat → Nat) (s : Nat) : Nat → Nat
  | 0 => 0
  | k + 1 => if s.testBit k = true then dm_oc g s k else dm_oc g s k ||| g k
theorem dm_oc_s (g : Nat → Nat) (s k : Nat) : dm_oc g s (k + 1) = if s.testBit k = true then dm_oc g s k else dm_oc g s k ||| g k := rfl
theorem dm_oc_lt {g : Nat → Nat} (hg : ∀ k, k < 7 → g k < 128) (s : Nat) : ∀ k, k ≤ 7 → dm_oc g s k < 128 := by
  intro k
  induction k with
  | zero => exact fun _ => (by decide : (0 : Nat) < 128)
  | succ k ih =>
    intro hk
    rw [dm_oc_s]
    by_cases h : s.testBit k = true
    · rw [if_pos h]
      exact ih (by omega)
    · rw [if_neg h]
      exact dm_or_lt (ih (by omega)) (hg k (by omega))
def dm_cv (g : Nat → Nat) : Nat → Nat
  | 0 => 7
  | k + 1 => if dm_cv g k ≤ dm_ct k + dm_ct (dm_oc g k 7) then dm_cv g k else dm_ct k + dm_ct (dm_oc g k 7)
theorem dm_cv_s (g : Nat → Nat) (k : Nat) : dm_cv g (k + 1) = if dm_cv g k ≤ dm_ct k + dm_ct (dm_oc g k 7) then dm_cv g k else dm_ct k + dm_ct (dm_oc g k 7) := rfl
theorem dm_cv_7 (g : Nat → Nat) : ∀ k, dm_cv g k ≤ 7 := by
  intro k
  induction k with
  | zero => exact Nat.le_refl 7
  | succ k ih =>
    rw [dm_cv_s]
    by_cases h : dm_cv g k ≤ dm_ct k + dm_ct (dm_oc g k 7)
    · rw [if_pos h]
      exact ih
    · rw [if_neg h]
      omega
theorem dm_xo4 {post : Int32 → Prop} {g : Nat → Nat} {s : Nat} {cols most usab : Nat → Int32} (hg : dm_G g cols) (hs : s < 128) (K : post (nI (dm_oc g s 7))) :
    ∀ d k, k + d = 7 → wX_columnsOutside_4 post (nI s) cols most usab (d + 1) (nI (dm_oc g s k)) (nI k) := by
  intro d
  induction d with
  | zero =>
    intro k hk
    obtain rfl : k = 7 := by omega
    exact dm_g7 K
  | succ d ih =>
    intro k hk
    have hk7 : k < 7 := by omega
    have h := ih (k + 1) (by omega)
    rw [dm_oc_s] at h
    refine dm_l7 hk7 (dm_has hs hk7 (fun hb => ⟨dm_i7 hk7, nm_r (e' := nI (dm_oc g s k ||| g k)) ?_ (nm_r (nI_1 k) ?_)⟩) (fun hb => nm_r (nI_1 k) ?_))
    · rw [dm_cl (by omega), (hg k hk7).1, dm_or]
    · rw [if_neg (by rw [hb]; decide)] at h
      exact h
    · rw [if_pos hb] at h
      exact h
theorem dm_xc5 {post : Int32 → Prop} {g : Nat → Nat} {cols most usab : Nat → Int32} (hg : dm_G g cols) (K : post (nI (dm_cv g 128))) :
    ∀ d k, k + d = 128 → wX_cover_5 post cols most usab (d + 1) (nI (dm_cv g k)) (nI k) := by
  intro d
  induction d with
  | zero =>
    intro k hk
    obtain rfl : k = 128 := by omega
    exact dm_g128 K
  | succ d ih =>
    intro k hk
    have hk' : k < 128 := by omega
    have h := ih (k + 1) (by omega)
    rw [dm_cv_s] at h
    have hlt := dm_oc_lt (dm_G_lt hg) k 7 (Nat.le_refl 7)
    have b0 := dm_cv_7 g k
    have b1 := dm_ct_7 k
    have b2 := dm_ct_7 (dm_oc g k 7)
    refine dm_l128 hk' ⟨7 + 1, dm_xo4 hg hk' ?_ 7 0 rfl⟩
    refine dm_co hk' ?_
    refine dm_co hlt ?_
    refine nm_r (nI_add _ _) (pk_le (dm_cv g k) (dm_ct k + dm_ct (dm_oc g k 7)) (fun z => nm_r (nI_1 k) ?_) (fun z => nm_r (nI_1 k) ?_))
    · rw [if_pos z] at h
      exact h
    · rw [if_neg (by omega)] at h
      exact h
