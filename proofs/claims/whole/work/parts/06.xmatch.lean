/-! the component: the size of a largest matching -/
theorem dm_row_8 {e : Nat} {m : Nat → Nat} {S : Nat} (hm : ∀ T, m T ≤ 7) (c : Nat) : dm_row e m S c ≤ 8 := by
  rcases dm_row_at e m S c with h | ⟨d, _, _, _, h⟩
  · rw [h]
    have := hm S
    omega
  · rw [h]
    have := hm (dm_x S d)
    omega
theorem dm_row_cg {e : Nat} {t m : Nat → Nat} {S : Nat} (h0 : t S = m S) (h1 : ∀ c, c < 7 → S.testBit c = true → t (dm_x S c) = m (dm_x S c)) : ∀ c, c ≤ 7 → dm_row e t S c = dm_row e m S c := by
  intro c
  induction c with
  | zero => exact fun _ => h0
  | succ c ih =>
    intro hc
    rw [dm_row_s, dm_row_s, ih (by omega)]
    by_cases hb : S.testBit c = true
    · rw [h1 c (by omega) hb]
    · rw [if_neg (fun z => hb z.1.2), if_neg (fun z => hb z.1.2)]
theorem dm_x_ns (S c : Nat) : dm_x S c ≠ S := by
  intro h
  have h1 := dm_x_self S c
  rw [h] at h1
  cases hb : S.testBit c <;> rw [hb] at h1 <;> exact absurd h1 (by decide)
theorem dm_ar19 {post : SX → Prop} {J3 : Int32 → (Nat → Int32) → (Nat → Int32) → (Nat → Int32) → Prop} {x1 : Int32} {S e : Nat} {m : Nat → Nat} {cols usab : Nat → Int32} (hS : S < 128) (hm : ∀ T, m T ≤ 7)
    (K : ∀ most, (∀ T, T < 128 → most T = nI (if T = S then dm_row e m S 7 else m T)) → ∀ x, x = nI S + (-1) → J3 x cols most usab) :
    ∀ d c most, c + d = 7 → (∀ T, T < 128 → most T = nI (if T = S then dm_row e m S c else m T)) → wX_allowRow_19 post J3 x1 (nI S) (nI (e &&& S)) (d + 1) (nI c) cols most usab := by
  intro d
  induction d with
  | zero =>
    intro c most hc hI
    obtain rfl : c = 7 := by omega
    exact dm_g7 (K most hI)
  | succ d ih =>
    intro c most hc hI
    have hc7 : c < 7 := by omega
    have hx : dm_x S c < 128 := dm_x_lt hS hc7
    have hxn : dm_x S c ≠ S := dm_x_ns S c
    have e1 : most S = nI (dm_row e m S c) := by rw [hI S hS, if_pos rfl]
    have e2 : most (dm_x S c) = nI (m (dm_x S c)) := by rw [hI _ hx, if_neg hxn]
    have b1 := dm_row_8 (e := e) (S := S) hm c
    have b2 := hm (dm_x S c)
    have c1 : most (nI S).toNatClampNeg = nI (dm_row e m S c) := by rw [dm_cl hS, e1]
    have c2 : most ((nI S) ^^^ ((1 : Int32) <<< (nI c &&& 31))).toNatClampNeg = nI (m (dm_x S c)) := by rw [dm_sxr hc7, dm_cl hx, e2]
    have i2 : vp_in ((nI S) ^^^ ((1 : Int32) <<< (nI c &&& 31))) 128 := by rw [dm_sxr hc7]; exact dm_i128 hx
    have hskip : ¬ ((e.testBit c = true ∧ S.testBit c = true) ∧ dm_row e m S c ≤ m (dm_x S c)) → ∀ x, x = nI c + 1 → wX_allowRow_19 post J3 x1 (nI S) (nI (e &&& S)) (d + 1) x cols most usab := by
      intro hn
      refine nm_r (nI_1 c) (ih (c + 1) most (by omega) (fun T hT => ?_))
      rw [hI T hT, dm_row_s, if_neg hn]
    refine dm_l7 hc7 (dm_has (dm_and_lt e hS) hc7 (fun hb => hskip (fun z => ?_)) (fun hb => ⟨i2, dm_i128 hS, ?_⟩))
    · rw [Nat.testBit_and, z.1.1, z.1.2] at hb
      exact absurd hb (by decide)
    · rw [Nat.testBit_and, Bool.and_eq_true] at hb
      refine pk_lt (m (dm_x S c)) (dm_row e m S c) (fun hlt => hskip (fun z => ?_)) (fun hge => ⟨i2, dm_i128 hS, nm_r (e' := upd most S (nI (m (dm_x S c) + 1))) ?_ (nm_r (nI_1 c) (ih (c + 1) _ (by omega) (fun T hT => ?_)))⟩) c2 c1
      · have := z.2
        omega
      · rw [c2, nI_1, dm_cl hS]
      · by_cases hTS : T = S
        · subst hTS
          rw [pk_us, if_pos rfl, dm_row_s, if_pos ⟨hb, hge⟩]
        · rw [pk_un hTS, hI T hT, if_neg hTS, if_neg hTS]
theorem dm_ar3 {post : SX → Prop} {r e : Nat} {t : Nat → Nat} {cols usab : Nat → Int32} (hr : r < 7) (hc : cols r = nI e) (ht : ∀ T, t T ≤ 7) (ht' : ∀ T, dm_row e t T 7 ≤ 7)
    (K : ∀ most, (∀ T, T < 128 → most T = nI (dm_row e t T 7)) → post (cols, most, usab)) :
    ∀ S most, S < 128 → (∀ T, T < 128 → most T = nI (if T ≤ S then t T else dm_row e t T 7)) → wX_allowRow_3 post (nI r) (S + 1) (nI S) cols most usab := by
  intro S
  induction S with
  | zero =>
    intro most _ hI
    refine br_t (by rw [nI_0]; decide) (K most (fun T hT => ?_))
    rw [hI T hT]
    by_cases h : T ≤ 0
    · obtain rfl : T = 0 := by omega
      rw [if_pos h]
      rcases dm_row_at e t 0 7 with z | ⟨d, _, _, z, _⟩
      · rw [z]
      · rw [Nat.zero_testBit] at z
        exact absurd z (by decide)
    · rw [if_neg h]
  | succ S ih =>
    intro most hS hI
    refine br_f (nI_nle (by omega) (by omega)) ⟨dm_i7 hr, nm_r (e' := nI (e &&& (S + 1))) (by rw [dm_cl (by omega), hc, nx_and]) ⟨7 + 1, ?_⟩⟩
    refine dm_ar19 (m := fun T => if T ≤ S + 1 then t T else dm_row e t T 7) hS (fun T => ?_) (fun most' hI' x hx => ?_) 7 0 most (by omega) (fun T hT => ?_)
    · by_cases h : T ≤ S + 1
      · rw [if_pos h]; exact ht T
      · rw [if_neg h]; exact ht' T
    · rw [hx, pk_m1]
      refine ih most' (by omega) (fun T hT => ?_)
      rw [hI' T hT]
      by_cases h : T = S + 1
      · subst h
        rw [if_pos rfl, if_neg (by omega)]
        refine congrArg nI (dm_row_cg ?_ (fun c hc hb => ?_) 7 (Nat.le_refl 7)).symm
        · rw [if_pos (Nat.le_refl _)]
        · rw [if_pos (Nat.le_of_lt (dm_xlt c hc _ hS hb))]
      · rw [if_neg h]
        by_cases h2 : T ≤ S
        · rw [if_pos h2, if_pos (by omega)]
        · rw [if_neg h2, if_neg (by omega)]
    · rw [hI T hT]
      by_cases h : T = S + 1
      · subst h
        rw [if_pos rfl]
        rfl
      · rw [if_neg h]
theorem dm_ar {post : SX → Prop} {r e : Nat} {t : Nat → Nat} {cols most usab : Nat → Int32} (hr : r < 7) (hc : cols r = nI e) (ht : ∀ T, t T ≤ 7) (ht' : ∀ T, dm_row e t T 7 ≤ 7)
    (hI : ∀ T, T < 128 → most T = nI (t T)) (K : ∀ most, (∀ T, T < 128 → most T = nI (dm_row e t T 7)) → post (cols, most, usab)) : wpX_allowRow post (cols, most, usab) (nI r) := by
  refine ⟨127 + 1, dm_ar3 hr hc ht ht' K 127 most (by decide) (fun T hT => ?_)⟩
  rw [hI T hT, if_pos (by omega)]
def dm_G (g : Nat → Nat) (a : Nat → Int32) : Prop := ∀ j, j < 7 → a j = nI (g j) ∧ g j < 128
theorem dm_ms24 {post : Int32 → SX → Prop} {g : Nat → Nat} {R C : Nat} {cols usab : Nat → Int32} (hg : dm_G g cols) (hR : R < 128) (hC : C < 128)
    (K : ∀ most, post (nI (dm_f (dm_xe g R) 7 C)) (cols, most, usab)) :
    ∀ d k most, k + d = 7 → (∀ T, T < 128 → most T = nI (dm_f (dm_xe g R) k T)) → wX_matchingSize_24 post (nI R) (nI C) (d + 1) (nI k) cols most usab := by
  intro d
  induction d with
  | zero =>
    intro k most hk hI
    obtain rfl : k = 7 := by omega
    refine dm_g7 ⟨dm_i128 hC, ?_⟩
    rw [dm_cl hC, hI C hC]
    exact K most
  | succ d ih =>
    intro k most hk hI
    have hk7 : k < 7 := by omega
    have ef : ∀ T, dm_f (dm_xe g R) (k + 1) T = dm_row (dm_xe g R k) (dm_f (dm_xe g R) k) T 7 := fun T => rfl
    refine dm_l7 hk7 (dm_has hR hk7 (fun hb => nm_r (nI_1 k) (ih (k + 1) most (by omega) (fun T hT => ?_))) (fun hb => ?_))
    · have e0 : dm_xe g R k = 0 := by
        unfold dm_xe
        rw [if_neg (by rw [hb]; decide)]
      rw [hI T hT, ef, e0, dm_row_0]
    · have e1 : dm_xe g R k = g k := by
        unfold dm_xe
        rw [if_pos hb]
      refine dm_ar (e := g k) (t := dm_f (dm_xe g R) k) hk7 (hg k hk7).1 (dm_f_7 _ k) (fun T => ?_) hI (fun most' hI' => nm_r (nI_1 k) (ih (k + 1) most' (by omega) (fun T hT => ?_)))
      · have h := dm_f_7 (dm_xe g R) (k + 1) T
        rw [ef, e1] at h
        exact h
      · rw [hI' T hT, ef, e1]
theorem dm_ms2 {post : Int32 → SX → Prop} {g : Nat → Nat} {R C : Nat} {cols usab : Nat → Int32} (hg : dm_G g cols) (hR : R < 128) (hC : C < 128)
    (K : ∀ most, post (nI (dm_f (dm_xe g R) 7 C)) (cols, most, usab)) :
    ∀ d i most, i + d = 128 → (∀ T, T < i → most T = 0) → wX_matchingSize_2 post (nI R) (nI C) (d + 1) (nI i) cols most usab := by
  intro d
  induction d with
  | zero =>
    intro i most hi hI
    obtain rfl : i = 128 := by omega
    exact dm_g128 ⟨7 + 1, dm_ms24 hg hR hC K 7 0 most rfl (fun T hT => hI T hT)⟩
  | succ d ih =>
    intro i most hi hI
    have hi' : i < 128 := by omega
    refine dm_l128 hi' ⟨dm_i128 hi', nm_e (nm_r (nI_1 i) (ih (i + 1) _ (by omega) (fun T hT => ?_)))⟩
    rw [dm_cl hi']
    by_cases h : T = i
    · rw [h, pk_us]
    · rw [pk_un h]
      exact hI T (by omega)
theorem dm_ms {post : Int32 → SX → Prop} {g : Nat → Nat} {R C : Nat} {cols most usab : Nat → Int32} {p0 p1 : Int32} (hg : dm_G g cols) (h0 : p0 = nI R) (h1 : p1 = nI C) (hR : R < 128) (hC : C < 128)
    (K : ∀ most, post (nI (dm_f (dm_xe g R) 7 C)) (cols, most, usab)) : wpX_matchingSize post (cols, most, usab) p0 p1 := by
  subst h0 h1
  exact ⟨128 + 1, dm_ms2 hg hR hC K 128 0 most rfl (fun T hT => absurd hT (by omega))⟩
/-! the four sizes that are asked for -/
theorem dm_127x {r : Nat} (hr : r < 7) : (127 : Int32) ^^^ ((1 : Int32) <<< (nI r &&& 31)) = nI (dm_x 127 r) := dm_sxr (s := 127) hr
theorem dm_x127 {r : Nat} (hr : r < 7) : dm_x 127 r < 128 := dm_x_lt (by decide) hr
theorem dm_m1 {post : Int32 → SX → Prop} {g : Nat → Nat} {cols most usab : Nat → Int32} (hg : dm_G g cols) (K : ∀ most, post (nI (dm_L g)) (cols, most, usab)) : wpX_matchingSize post (cols, most, usab) 127 127 := by
  refine dm_ms (R := 127) (C := 127) hg rfl rfl (by decide) (by decide) (fun most => ?_)
  rw [dm_s1]
  exact K most
theorem dm_m2 {post : Int32 → SX → Prop} {g : Nat → Nat} {cols most usab : Nat → Int32} {r : Nat} (hg : dm_G g cols) (hr : r < 7) (K : ∀ most, post (nI (dm_R g r)) (cols, most, usab)) : wpX_matchingSize post (cols, most, usab) (127 ^^^ ((1 : Int32) <<< (nI r &&& 31))) 127 := by
  refine dm_ms (R := dm_x 127 r) (C := 127) hg (dm_127x hr) rfl (dm_x127 hr) (by decide) (fun most => ?_)
  rw [dm_s2]
  exact K most
theorem dm_m3 {post : Int32 → SX → Prop} {g : Nat → Nat} {cols most usab : Nat → Int32} {c : Nat} (hg : dm_G g cols) (hc : c < 7) (K : ∀ most, post (nI (dm_C g c)) (cols, most, usab)) : wpX_matchingSize post (cols, most, usab) 127 (127 ^^^ ((1 : Int32) <<< (nI c &&& 31))) := by
  refine dm_ms (R := 127) (C := dm_x 127 c) hg rfl (dm_127x hc) (by decide) (dm_x127 hc) (fun most => ?_)
  rw [dm_s3 g hc]
  exact K most
theorem dm_m4 {post : Int32 → SX → Prop} {g : Nat → Nat} {cols most usab : Nat → Int32} {r c : Nat} (hg : dm_G g cols) (hr : r < 7) (hc : c < 7) (K : ∀ most, post (nI (dm_RC g r c)) (cols, most, usab)) : wpX_matchingSize post (cols, most, usab) (127 ^^^ ((1 : Int32) <<< (nI r &&& 31))) (127 ^^^ ((1 : Int32) <<< (nI c &&& 31))) := by
  refine dm_ms (R := dm_x 127 r) (C := dm_x 127 c) hg (dm_127x hr) (dm_127x hc) (dm_x127 hr) (dm_x127 hc) (fun most => ?_)
  rw [dm_s4 g hr hc]
  exact K most
