/-! the reference's other methods -/
theorem dm_inE {A B : Prop} {u : SY} {x y : Int32} {s c : Nat} (hx : x = nI s) (hy : y = nI c) (hs : s < 128) (hc : c < 7) (f : s.testBit c = false → A) (t : s.testBit c = true → B) : wpY_in (fun r => (r = 0 → A) ∧ (¬ r = 0 → B)) u x y := by
  subst hx hy
  exact dm_in hs hc f t
theorem dm_yL {post : Int32 → SY → Prop} {g : Nat → Nat} {rows can thn good : Nat → Int32} (hg : dm_G g rows) (K : ∀ can thn, post (nI (dm_L g)) (rows, can, thn, good)) : wpY_largest post (rows, can, thn, good) := by
  unfold wpY_largest
  dsimp only
  exact dm_sw (w := 7) (h := 7) (r := 7) (c := 7) hg (by decide) (by decide) (by decide) (by decide) (fun can' thn' => K can' thn')
theorem dm_ylr {post : Int32 → SY → Prop} {g : Nat → Nat} {rows good : Nat → Int32} (hg : dm_G g rows) (K : ∀ can thn, post (nI (dm_bs (dm_lr g) 7)) (rows, can, thn, good)) :
    ∀ d k x2 can thn, k + d = 7 → x2 = nI (dm_bs (dm_lr g) k) → wY_looseRows_9 post (nI (dm_L g)) (d + 1) x2 (nI k) rows can thn good := by
  intro d
  induction d with
  | zero =>
    intro k x2 can thn hk hx
    obtain rfl : k = 7 := by omega
    subst hx
    exact dm_g7 (K can thn)
  | succ d ih =>
    intro k x2 can thn hk hx
    have hk7 : k < 7 := by omega
    have b1 : dm_R g k ≤ 7 := dm_nu_7 _
    have b2 : dm_L g ≤ 7 := dm_nu_7 _
    exact dm_l7 hk7 (dm_sw (w := k) (h := 7) (r := 7) (c := 7) hg (by omega) (by decide) (by decide) (by decide) (fun can' thn' => pk_eq (dm_R g k) (dm_L g)
      (fun z => nm_r (dm_bs_i hk7 hx (decide_eq_true z)) (nm_r (nI_1 k) (ih (k + 1) _ can' thn' (by omega) rfl)))
      (fun z => nm_r (nI_1 k) (ih (k + 1) x2 can' thn' (by omega) (dm_bs_e hx (decide_eq_false z))))))
theorem dm_ylc {post : Int32 → SY → Prop} {g : Nat → Nat} {rows good : Nat → Int32} (hg : dm_G g rows) (K : ∀ can thn, post (nI (dm_bs (dm_lc g) 7)) (rows, can, thn, good)) :
    ∀ d k x2 can thn, k + d = 7 → x2 = nI (dm_bs (dm_lc g) k) → wY_looseColumns_9 post (nI (dm_L g)) (d + 1) x2 (nI k) rows can thn good := by
  intro d
  induction d with
  | zero =>
    intro k x2 can thn hk hx
    obtain rfl : k = 7 := by omega
    subst hx
    exact dm_g7 (K can thn)
  | succ d ih =>
    intro k x2 can thn hk hx
    have hk7 : k < 7 := by omega
    have b1 : dm_C g k ≤ 7 := dm_nu_7 _
    have b2 : dm_L g ≤ 7 := dm_nu_7 _
    exact dm_l7 hk7 (dm_sw (w := 7) (h := k) (r := 7) (c := 7) hg (by decide) (by omega) (by decide) (by decide) (fun can' thn' => pk_eq (dm_C g k) (dm_L g)
      (fun z => nm_r (dm_bs_i hk7 hx (decide_eq_true z)) (nm_r (nI_1 k) (ih (k + 1) _ can' thn' (by omega) rfl)))
      (fun z => nm_r (nI_1 k) (ih (k + 1) x2 can' thn' (by omega) (dm_bs_e hx (decide_eq_false z))))))
theorem dm_yu5 {post : Int32 → SY → Prop} {g : Nat → Nat} {r : Nat} {rows good : Nat → Int32} (hg : dm_G g rows) (hr : r < 7) (K : ∀ can thn, post (nI (dm_us g r)) (rows, can, thn, good)) :
    ∀ d k x3 can thn, k + d = 7 → x3 = nI (dm_bs (dm_up8 g r) k) → wY_usableOf_5 post (nI r) (nI (dm_L g)) (d + 1) x3 (nI k) rows can thn good := by
  intro d
  induction d with
  | zero =>
    intro k x3 can thn hk hx
    obtain rfl : k = 7 := by omega
    subst hx
    exact dm_g7 (K can thn)
  | succ d ih =>
    intro k x3 can thn hk hx
    have hk7 : k < 7 := by omega
    have b1 : dm_RC g r k ≤ 7 := dm_nu_7 _
    have b2 : dm_L g ≤ 7 := dm_nu_7 _
    have ec : rows (nI r).toNatClampNeg = nI (g r) := by rw [dm_cl (by omega), (hg r hr).1]
    refine dm_l7 hk7 ⟨dm_i7 hr, dm_inE ec rfl (hg r hr).2 hk7 (fun hb => nm_r (nI_1 k) (ih (k + 1) x3 can thn (by omega) (dm_bs_e hx ?_))) (fun hb => dm_sw (w := r) (h := k) (r := 7) (c := 7) hg (by omega) (by omega) (by decide) (by decide) (fun can' thn' => ?_))⟩
    · show ((g r).testBit k && _) = false
      rw [hb]
      rfl
    · refine pk_eq (dm_RC g r k + 1) (dm_L g) (fun z => nm_r (dm_bs_i hk7 hx ?_) (nm_r (nI_1 k) (ih (k + 1) _ can' thn' (by omega) rfl))) (fun z => nm_r (nI_1 k) (ih (k + 1) x3 can' thn' (by omega) (dm_bs_e hx ?_))) (nI_1 _)
      · show ((g r).testBit k && _) = true
        rw [hb, decide_eq_true z]
        rfl
      · show ((g r).testBit k && _) = false
        rw [hb, decide_eq_false z]
        rfl
theorem dm_yu {post : Int32 → SY → Prop} {g : Nat → Nat} {r : Nat} {rows can thn good : Nat → Int32} (hg : dm_G g rows) (hr : r < 7) (K : ∀ can thn, post (nI (dm_us g r)) (rows, can, thn, good)) : wpY_usableOf post (rows, can, thn, good) (nI r) (nI (dm_L g)) :=
  ⟨7 + 1, dm_yu5 hg hr K 7 0 0 can thn rfl rfl⟩
theorem dm_yf20 {post : Int32 → SY → Prop} {g : Nat → Nat} {r : Nat} {rows good : Nat → Int32} (hg : dm_G g rows) (hr : r < 7) (K : ∀ can thn, post (nI (dm_fo g r)) (rows, can, thn, good)) :
    ∀ d k x3 can thn, k + d = 7 → x3 = nI (dm_bs (dm_fp8 g r) k) → wY_forced_20 post (nI r) (nI (dm_L g)) (d + 1) x3 (nI k) rows can thn good := by
  intro d
  induction d with
  | zero =>
    intro k x3 can thn hk hx
    obtain rfl : k = 7 := by omega
    subst hx
    exact dm_g7 (K can thn)
  | succ d ih =>
    intro k x3 can thn hk hx
    have hk7 : k < 7 := by omega
    have b1 : dm_Ed g r k ≤ 7 := dm_nu_7 _
    have b2 : dm_L g ≤ 7 := dm_nu_7 _
    have ec : rows (nI r).toNatClampNeg = nI (g r) := by rw [dm_cl (by omega), (hg r hr).1]
    refine dm_l7 hk7 ⟨dm_i7 hr, dm_inE ec rfl (hg r hr).2 hk7 (fun hb => nm_r (nI_1 k) (ih (k + 1) x3 can thn (by omega) (dm_bs_e hx ?_))) (fun hb => dm_sw (w := 7) (h := 7) (r := r) (c := k) hg (by decide) (by decide) (by omega) (by omega) (fun can' thn' => ?_))⟩
    · show ((g r).testBit k && _) = false
      rw [hb]
      rfl
    · refine pk_le (dm_L g) (dm_Ed g r k) (fun z => nm_r (nI_1 k) (ih (k + 1) x3 can' thn' (by omega) (dm_bs_e hx ?_))) (fun z => nm_r (dm_bs_i hk7 hx ?_) (nm_r (nI_1 k) (ih (k + 1) _ can' thn' (by omega) rfl)))
      · show ((g r).testBit k && _) = false
        rw [hb, decide_eq_false (by omega)]
        rfl
      · show ((g r).testBit k && _) = true
        rw [hb, decide_eq_true z]
        rfl
theorem dm_yg7 {post : SY → Prop} {g : Nat → Nat} {rows : Nat → Int32} (hg : dm_G g rows) (K : ∀ can thn good, dm_G (dm_us g) good → post (rows, can, thn, good)) :
    ∀ d k can thn good, k + d = 7 → (∀ j, j < k → good j = nI (dm_us g j)) → wY_findGood_7 post (nI (dm_L g)) (d + 1) (nI k) rows can thn good := by
  intro d
  induction d with
  | zero =>
    intro k can thn good hk hI
    obtain rfl : k = 7 := by omega
    exact dm_g7 (K can thn good (fun j hj => ⟨hI j hj, dm_us_lt g j⟩))
  | succ d ih =>
    intro k can thn good hk hI
    have hk7 : k < 7 := by omega
    refine dm_l7 hk7 (dm_yu hg hk7 (fun can' thn' => ⟨dm_i7 hk7, nm_e (nm_r (nI_1 k) (ih (k + 1) can' thn' _ (by omega) (fun j hj => ?_)))⟩))
    rw [dm_cl (by omega)]
    by_cases h : j = k
    · rw [h, pk_us]
    · rw [pk_un h]
      exact hI j (by omega)
theorem dm_yg {post : SY → Prop} {g : Nat → Nat} {rows can thn good : Nat → Int32} (hg : dm_G g rows) (K : ∀ can thn good, dm_G (dm_us g) good → post (rows, can, thn, good)) : wpY_findGood post (rows, can, thn, good) := by
  unfold wpY_findGood
  dsimp only
  exact dm_yL hg (fun can' thn' => ⟨7 + 1, dm_yg7 hg K 7 0 can' thn' good rfl (fun j hj => absurd hj (by omega))⟩)
/-! the block of row r -/
theorem dm_bo15 {post : Int32 → Prop} {J6 : Int32 → Int32 → Prop} {U : Nat → Nat} {p R0 : Nat} {rows can thn good : Nat → Int32} (hU : dm_G U good) (hR0 : R0 < 128)
    (K : J6 (nI (dm_ps (dm_ys U) 49 R0)) (nI (p + 1))) :
    ∀ d q R, q + d = 49 → dm_ps (dm_ys U) q R0 = R → wY_blockOf_15 post J6 (nI p) rows can thn good (d + 1) (nI R) (nI q) := by
  intro d
  induction d with
  | zero =>
    intro q R hq hR
    obtain rfl : q = 49 := by omega
    subst hR
    exact dm_g49 (nm_r (nI_1 p) K)
  | succ d ih =>
    intro q R hq hR
    have hq49 : q < 49 := by omega
    have hRl : R < 128 := by
      rw [← hR]
      exact (dm_ps_in (dm_ys_in U) hR0 q (by omega)).1
    have ha : q / 7 < 7 := by omega
    have hb : q % 7 < 7 := by omega
    have ed : nI q / 7 = nI (q / 7) := pk_div (d := 7) (by omega) (by decide) (by decide)
    have em : nI q - nI q / 7 * 7 = nI (q % 7) := pk_rem (d := 7) (by omega) (by decide) (by decide)
    have ia : vp_in (nI q / 7) 7 := by rw [ed]; exact dm_i7 ha
    have ib : vp_in (nI q - nI q / 7 * 7) 7 := by rw [em]; exact dm_i7 hb
    have ea : good (nI q / 7).toNatClampNeg = nI (U (q / 7)) := by rw [ed, dm_cl (by omega), (hU _ ha).1]
    have eb : good (nI q - nI q / 7 * 7).toNatClampNeg = nI (U (q % 7)) := by rw [em, dm_cl (by omega), (hU _ hb).1]
    have n7 : ¬ (7 : Int32) = 0 := by decide
    have hl : U (q / 7) &&& U (q % 7) < 128 := Nat.lt_of_le_of_lt Nat.and_le_left (hU _ ha).2
    have es : dm_ps (dm_ys U) (q + 1) R0 = if R.testBit (q / 7) = true ∧ U (q / 7) &&& U (q % 7) ≠ 0 then R ||| 2 ^ (q % 7) else R := by rw [← hR]; rfl
    have hskip : ¬ (R.testBit (q / 7) = true ∧ U (q / 7) &&& U (q % 7) ≠ 0) → ∀ x, x = nI q + 1 → wY_blockOf_15 post J6 (nI p) rows can thn good (d + 1) (nI R) x := by
      intro hn
      refine nm_r (nI_1 q) (ih (q + 1) R (by omega) ?_)
      rw [es, if_neg hn]
    refine dm_l49 hq49 ⟨n7, dm_inE rfl ed hRl ha (fun hz => hskip (fun y => ?_)) (fun hz => ⟨n7, ia, n7, ib, pk_eq (U (q / 7) &&& U (q % 7)) 0 (fun z => hskip (fun y => y.2 z)) (fun z => ⟨n7, nm_r (e' := nI (R ||| 2 ^ (q % 7))) ?_ (nm_r (nI_1 q) (ih (q + 1) _ (by omega) ?_))⟩) (by rw [ea, eb, nx_and])⟩)⟩
    · rw [hz] at y
      exact absurd y.1 (by decide)
    · rw [em, dm_sor hb]
    · rw [es, if_pos ⟨hz, z⟩]
theorem dm_bo6 {post : Int32 → Prop} {U : Nat → Nat} {r : Nat} {rows can thn good : Nat → Int32} (hU : dm_G U good) (hr : r < 7) (K : post (nI (dm_yr U r))) :
    ∀ d p R, p + d = 7 → dm_it (dm_ps (dm_ys U) 49) p (2 ^ r) = R → wY_blockOf_6 post rows can thn good (d + 1) (nI R) (nI p) := by
  intro d
  induction d with
  | zero =>
    intro p R hp hR
    obtain rfl : p = 7 := by omega
    subst hR
    exact dm_g7 K
  | succ d ih =>
    intro p R hp hR
    have hp7 : p < 7 := by omega
    have hRl : R < 128 := by
      rw [← hR]
      exact dm_it_lt (fun R h => (dm_ps_in (dm_ys_in U) h 49 (Nat.le_refl 49)).1) (dm_p2 hr) p
    refine dm_l7 hp7 ⟨49 + 1, dm_bo15 hU hRl (ih (p + 1) _ (by omega) ?_) 49 0 R rfl rfl⟩
    rw [← hR]
    rfl
theorem dm_bo {post : Int32 → Prop} {U : Nat → Nat} {r : Nat} {rows can thn good : Nat → Int32} (hU : dm_G U good) (hr : r < 7) (K : post (nI (dm_yr U r))) : wpY_blockOf post (rows, can, thn, good) (nI r) :=
  nm_r (dm_sh r (by omega)) ⟨7 + 1, dm_bo6 hU hr K 7 0 _ rfl rfl⟩
def dm_yq (U : Nat → Nat) : Nat → Bool := fun k => decide (U k ≠ 0 ∧ dm_yr U k &&& (2 ^ k - 1) = 0)
theorem dm_xyq {U : Nat → Nat} (hU : ∀ k, k < 7 → U k < 128) : dm_nb (dm_yq U) 7 = dm_nb (dm_xq U) 7 := by
  refine dm_nb_congr 7 (fun i hi => ?_)
  show decide _ = decide _
  exact decide_eq_decide.2 (dm_blk hU hi).symm
theorem dm_yb8 {post : Int32 → SY → Prop} {U : Nat → Nat} {rows can thn good : Nat → Int32} (hU : dm_G U good) (K : post (nI (dm_nb (dm_yq U) 7)) (rows, can, thn, good)) :
    ∀ d k, k + d = 7 → wY_blocks_8 post rows can thn good (d + 1) (nI (dm_nb (dm_yq U) k)) (nI k) := by
  intro d
  induction d with
  | zero =>
    intro k hk
    obtain rfl : k = 7 := by omega
    exact dm_g7 K
  | succ d ih =>
    intro k hk
    have hk7 : k < 7 := by omega
    have eu : good (nI k).toNatClampNeg = nI (U k) := by rw [dm_cl (by omega), (hU k hk7).1]
    have hl := (hU k hk7).2
    have hyl := dm_yr_lt U hk7
    have hal : dm_yr U k &&& (2 ^ k - 1) < 128 := Nat.lt_of_le_of_lt Nat.and_le_left hyl
    have hskip : ¬ (U k ≠ 0 ∧ dm_yr U k &&& (2 ^ k - 1) = 0) → ∀ x, x = nI k + 1 → wY_blocks_8 post rows can thn good (d + 1) (nI (dm_nb (dm_yq U) k)) x := by
      intro hn
      refine nm_r (nI_1 k) ?_
      have h := ih (k + 1) (by omega)
      rw [dm_nb_f (p := dm_yq U) (decide_eq_false hn)] at h
      exact h
    refine dm_l7 hk7 (dm_bo hU hk7 ⟨dm_i7 hk7, pk_eq (U k) 0 (fun z => hskip (fun y => y.1 z)) (fun z => pk_eq (dm_yr U k &&& (2 ^ k - 1)) 0 (fun y => nm_r (nI_1 _) (nm_r (nI_1 k) ?_)) (fun y => hskip (fun x => y x.2)) (dm_slo k hk7 _ hyl)) eu⟩)
    have h := ih (k + 1) (by omega)
    rw [dm_nb_t (p := dm_yq U) (decide_eq_true ⟨z, y⟩)] at h
    exact h
/-! covers -/
theorem dm_yc17 {post : Int32 → Prop} {J5 : Int32 → Int32 → Prop} {g : Nat → Nat} {s : Nat} {rows can thn good : Nat → Int32} (hg : dm_G g rows) (hs : s < 128) (K : J5 (nI (dm_cv g (s + 1))) (nI (s + 1))) :
    ∀ d k, k + d = 7 → wY_cover_17 post J5 (nI (dm_cv g s)) (nI s) rows can thn good (d + 1) (nI (dm_oc g s k)) (nI k) := by
  intro d
  induction d with
  | zero =>
    intro k hk
    obtain rfl : k = 7 := by omega
    have hlt := dm_oc_lt (dm_G_lt hg) s 7 (Nat.le_refl 7)
    have b0 := dm_cv_7 g s
    have b1 := dm_ct_7 s
    have b2 := dm_ct_7 (dm_oc g s 7)
    rw [dm_cv_s] at K
    refine dm_g7 ?_
    refine dm_sz hs ?_
    refine dm_sz hlt ?_
    refine nm_r (nI_add _ _) (pk_le (dm_cv g s) (dm_ct s + dm_ct (dm_oc g s 7)) (fun z => nm_r (nI_1 s) ?_) (fun z => nm_r (nI_1 s) ?_))
    · rw [if_pos z] at K
      exact K
    · rw [if_neg (by omega)] at K
      exact K
  | succ d ih =>
    intro k hk
    have hk7 : k < 7 := by omega
    have h := ih (k + 1) (by omega)
    rw [dm_oc_s] at h
    refine dm_l7 hk7 (dm_in hs hk7 (fun hb => ⟨dm_i7 hk7, nm_r (e' := nI (dm_oc g s k ||| g k)) ?_ (nm_r (nI_1 k) ?_)⟩) (fun hb => nm_r (nI_1 k) ?_))
    · rw [dm_cl (by omega), (hg k hk7).1, dm_or]
    · rw [if_neg (by rw [hb]; decide)] at h
      exact h
    · rw [if_pos hb] at h
      exact h
theorem dm_yc5 {post : Int32 → Prop} {g : Nat → Nat} {rows can thn good : Nat → Int32} (hg : dm_G g rows) (K : post (nI (dm_cv g 128))) :
    ∀ d k, k + d = 128 → wY_cover_5 post rows can thn good (d + 1) (nI (dm_cv g k)) (nI k) := by
  intro d
  induction d with
  | zero =>
    intro k hk
    obtain rfl : k = 128 := by omega
    exact dm_g128 K
  | succ d ih =>
    intro k hk
    have hk' : k < 128 := by omega
    exact dm_l128 hk' ⟨7 + 1, dm_yc17 hg hk' (ih (k + 1) (by omega)) 7 0 rfl⟩
