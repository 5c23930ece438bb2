/-! rows of kit/rows that serve here -/
theorem pk_us {f : Nat → Int32} {k : Nat} {x : Int32} : upd f k x k = x := if_pos rfl
theorem pk_un {f : Nat → Int32} {k j : Nat} {x : Int32} (h : j ≠ k) : upd f k x j = f j := if_neg h
theorem pk_sub {a b : Nat} (h : b ≤ a) : nI a - nI b = nI (a - b) := by
  obtain ⟨c, rfl⟩ : ∃ c, a = c + b := ⟨a - b, by omega⟩
  rw [← nI_add, Int32.add_sub_cancel, Nat.add_sub_cancel]
theorem pk_m1 (n : Nat) : nI (n + 1) + (-1) = nI n := by
  rw [← nI_1, Int32.add_assoc, show (1 : Int32) + (-1) = 0 from rfl, Int32.add_zero]
theorem pk_mul (a b : Nat) : nI a * nI b = nI (a * b) := (Int32.ofNat_mul a b).symm
theorem pk_div {a d : Nat} (ha : a < 2 ^ 31) (h0 : 0 < d) (hd : d < 2 ^ 31) : nI a / nI d = nI (a / d) := by
  apply Int32.toInt_inj.mp
  rw [lg_idiv_nonneg (by rw [nI_toInt ha]; omega) (by rw [nI_toInt hd]; omega), nI_toInt ha, nI_toInt hd, nI_toInt (Nat.lt_of_le_of_lt (Nat.div_le_self a d) ha)]
  first | rfl | exact (Int.natCast_ediv _ _).symm
theorem pk_rem {a d : Nat} (ha : a < 2 ^ 31) (h0 : 0 < d) (hd : d < 2 ^ 31) : nI a - nI a / nI d * nI d = nI (a % d) := by
  rw [pk_div ha h0 hd, pk_mul, pk_sub (Nat.div_mul_le_self a d)]
  exact congrArg nI (by have := Nat.div_add_mod' a d; omega)
theorem pk_ix (x : Int32) {n : Nat} (hn : n < 2 ^ 31) : x < 0 ∨ nI n ≤ x ∨ ∃ j : Nat, j < n ∧ x = nI j := by
  by_cases h : x < 0
  · exact Or.inl h
  · obtain ⟨j, hj, rfl⟩ := nI_of h
    by_cases h2 : j < n
    · exact Or.inr (Or.inr ⟨j, h2, rfl⟩)
    · exact Or.inr (Or.inl (nI_le (by omega) hj))
theorem pk_le {x y : Int32} {A B : Prop} (a b : Nat) (f : a ≤ b → A) (g : b < a → B) (hx : x = nI a := by rfl) (hy : y = nI b := by rfl) (ha : a < 2 ^ 31 := by omega) (hb : b < 2 ^ 31 := by omega) : (x ≤ y → A) ∧ (¬ x ≤ y → B) := by
  subst hx hy
  rw [nI_leI ha hb]
  exact ⟨f, fun z => g (by omega)⟩
theorem pk_lt {x y : Int32} {A B : Prop} (a b : Nat) (f : a < b → A) (g : b ≤ a → B) (hx : x = nI a := by rfl) (hy : y = nI b := by rfl) (ha : a < 2 ^ 31 := by omega) (hb : b < 2 ^ 31 := by omega) : (x < y → A) ∧ (¬ x < y → B) := by
  subst hx hy
  rw [nI_ltI ha hb]
  exact ⟨f, fun z => g (by omega)⟩
theorem pk_eq {x y : Int32} {A B : Prop} (a b : Nat) (f : a = b → A) (g : a ≠ b → B) (hx : x = nI a := by rfl) (hy : y = nI b := by rfl) (ha : a < 2 ^ 31 := by omega) (hb : b < 2 ^ 31 := by omega) : (x = y → A) ∧ (¬ x = y → B) := by
  subst hx hy
  rw [nI_eq ha hb]
  exact ⟨f, g⟩
theorem nx_and (a b : Nat) : nI a &&& nI b = nI (a &&& b) := by
  apply Int32.toBitVec_inj.1
  show BitVec.ofNat 32 a &&& BitVec.ofNat 32 b = BitVec.ofNat 32 (a &&& b)
  apply BitVec.eq_of_getLsbD_eq
  intro i hi
  simp [hi]
theorem nx_xor (a b : Nat) : nI a ^^^ nI b = nI (a ^^^ b) := by
  apply Int32.toBitVec_inj.1
  show BitVec.ofNat 32 a ^^^ BitVec.ofNat 32 b = BitVec.ofNat 32 (a ^^^ b)
  apply BitVec.eq_of_getLsbD_eq
  intro i hi
  simp [hi]
/-! own rows -/
theorem dm_or (a b : Nat) : nI a ||| nI b = nI (a ||| b) := by
  apply Int32.toBitVec_inj.1
  show BitVec.ofNat 32 a ||| BitVec.ofNat 32 b = BitVec.ofNat 32 (a ||| b)
  apply BitVec.eq_of_getLsbD_eq
  intro i hi
  simp [hi]
theorem dm_sh : ∀ c, c < 8 → (1 : Int32) <<< (nI c &&& 31) = nI (2 ^ c) := by decide +kernel
theorem dm_sor {s c : Nat} (hc : c < 7) : nI s ||| ((1 : Int32) <<< (nI c &&& 31)) = nI (s ||| 2 ^ c) := by
  rw [dm_sh c (by omega), dm_or]
theorem dm_sxr {s c : Nat} (hc : c < 7) : nI s ^^^ ((1 : Int32) <<< (nI c &&& 31)) = nI (dm_x s c) := by
  rw [dm_sh c (by omega), nx_xor]
  rfl
theorem dm_san : ∀ c, c < 8 → ∀ s, s < 128 → nI s &&& (((1 : Int32) <<< (nI c &&& 31)) ^^^ (-1)) = nI (dm_an s c) := by decide +kernel
theorem dm_sbt : ∀ c, c < 7 → ∀ s, s < 128 → ((nI s >>> (nI c &&& 31)) &&& 1) = if s.testBit c = true then 1 else 0 := by decide +kernel
theorem dm_xlt : ∀ c, c < 7 → ∀ s, s < 128 → s.testBit c = true → dm_x s c < s := by decide +kernel
theorem dm_slo : ∀ c, c < 7 → ∀ s, s < 128 → nI s &&& (((1 : Int32) <<< (nI c &&& 31)) - 1) = nI (s &&& (2 ^ c - 1)) := by decide +kernel
theorem dm_orx : ∀ c, c < 7 → ∀ s, s < 128 → s.testBit c = false → s ||| 2 ^ c = dm_x s c := by decide +kernel
theorem dm_vn (x : Int32) : vp_nar .boolean x = x &&& 1 := rfl
theorem dm_cl {n : Nat} (h : n < 128) : (nI n).toNatClampNeg = n := nI_clamp (by omega)
theorem dm_eq0 {A B : Prop} {n : Nat} (hn : n < 2 ^ 31) (f : n = 0 → A) (g : n ≠ 0 → B) : (nI n = 0 → A) ∧ (¬ nI n = 0 → B) := pk_eq n 0 f g rfl rfl hn
theorem dm_l7 {A B : Prop} {i : Nat} (hi : i < 7) (b : B) : ((7 : Int32) ≤ nI i → A) ∧ (¬ (7 : Int32) ≤ nI i → B) := br_f (nI_ge (b := 7) hi (by decide)) b
theorem dm_g7 {A B : Prop} (a : A) : ((7 : Int32) ≤ nI 7 → A) ∧ (¬ (7 : Int32) ≤ nI 7 → B) := br_t (nI_le (a := 7) (Nat.le_refl 7) (by decide)) a
theorem dm_l128 {A B : Prop} {i : Nat} (hi : i < 128) (b : B) : ((128 : Int32) ≤ nI i → A) ∧ (¬ (128 : Int32) ≤ nI i → B) := br_f (nI_ge (b := 128) hi (by decide)) b
theorem dm_g128 {A B : Prop} (a : A) : ((128 : Int32) ≤ nI 128 → A) ∧ (¬ (128 : Int32) ≤ nI 128 → B) := br_t (nI_le (a := 128) (Nat.le_refl 128) (by decide)) a
theorem dm_l49 {A B : Prop} {i : Nat} (hi : i < 49) (b : B) : ((49 : Int32) ≤ nI i → A) ∧ (¬ (49 : Int32) ≤ nI i → B) := br_f (nI_ge (b := 49) hi (by decide)) b
theorem dm_g49 {A B : Prop} (a : A) : ((49 : Int32) ≤ nI 49 → A) ∧ (¬ (49 : Int32) ≤ nI 49 → B) := br_t (nI_le (a := 49) (Nat.le_refl 49) (by decide)) a
theorem dm_i7 {i : Nat} (h : i < 7) : vp_in (nI i) 7 := vp_in_nI h (by decide)
theorem dm_i128 {i : Nat} (h : i < 128) : vp_in (nI i) 128 := vp_in_nI h (by decide)
/-! the two tests of a member -/
theorem dm_has {A B : Prop} {s c : Nat} (hs : s < 128) (hc : c < 7) (f : s.testBit c = false → A) (t : s.testBit c = true → B) : wpX_has (fun r => (r = 0 → A) ∧ (¬ r = 0 → B)) (nI s) (nI c) := by
  unfold wpX_has
  rw [dm_sbt c hc s hs]
  cases h : s.testBit c with
  | false => exact br_t rfl (br_t rfl (f h))
  | true => exact br_f (by decide) (br_f (by decide) (t h))
theorem dm_in {A B : Prop} {u : SY} {s c : Nat} (hs : s < 128) (hc : c < 7) (f : s.testBit c = false → A) (t : s.testBit c = true → B) : wpY_in (fun r => (r = 0 → A) ∧ (¬ r = 0 → B)) u (nI s) (nI c) := by
  obtain ⟨a, b, c', d⟩ := u
  unfold wpY_in
  dsimp only
  rw [dm_sbt c hc s hs]
  cases h : s.testBit c with
  | false => exact br_f (by decide) (br_t rfl (f h))
  | true => exact br_t rfl (br_f (by decide) (t h))
/-! a set that grows -/
theorem dm_bs_t {p : Nat → Bool} {k : Nat} (hk : k < 7) (h : p k = true) : nI (dm_bs p k) ||| ((1 : Int32) <<< (nI k &&& 31)) = nI (dm_bs p (k + 1)) := by
  rw [dm_sor hk]
  show _ = nI (if p k = true then dm_bs p k ||| 2 ^ k else dm_bs p k)
  rw [if_pos h]
theorem dm_bs_f {p : Nat → Bool} {k : Nat} (h : p k = false) : dm_bs p (k + 1) = dm_bs p k := by
  show (if p k = true then dm_bs p k ||| 2 ^ k else dm_bs p k) = _
  rw [if_neg (by rw [h]; decide)]
theorem dm_nb_t {p : Nat → Bool} {k : Nat} (h : p k = true) : dm_nb p (k + 1) = dm_nb p k + 1 := by
  show (if p k = true then dm_nb p k + 1 else dm_nb p k) = _
  rw [if_pos h]
theorem dm_nb_f {p : Nat → Bool} {k : Nat} (h : p k = false) : dm_nb p (k + 1) = dm_nb p k := by
  show (if p k = true then dm_nb p k + 1 else dm_nb p k) = _
  rw [if_neg (by rw [h]; decide)]
/-! numbers within -/
theorem dm_ix (x : Int32) : x < 0 ∨ (7 : Int32) ≤ x ∨ ∃ j : Nat, j < 7 ∧ x = nI j := pk_ix x (n := 7) (by decide)
theorem dm_out {A B : Prop} {x : Int32} (h : x < 0 ∨ (7 : Int32) ≤ x) (b : B) : wpX_isOutside (fun r => (r = 0 → A) ∧ (¬ r = 0 → B)) x := by
  unfold wpX_isOutside
  by_cases h0 : x < 0
  · exact br_t h0 (br_f (by decide) b)
  · rcases h with h | h
    · exact absurd h h0
    · exact br_f h0 (br_f (Int32.not_lt.mpr h) (br_f (by decide) b))
theorem dm_ins {A B : Prop} {j : Nat} (h : j < 7) (a : A) : wpX_isOutside (fun r => (r = 0 → A) ∧ (¬ r = 0 → B)) (nI j) := by
  unfold wpX_isOutside
  exact br_f (nI_pos (by omega)) (br_t (nI_lt (b := 7) h (by decide)) (br_t rfl a))
theorem dm_outY {A B : Prop} {u : SY} {x : Int32} (h : x < 0 ∨ (7 : Int32) ≤ x) (a : A) : wpY_isPlace (fun r => (r = 0 → A) ∧ (¬ r = 0 → B)) u x := by
  obtain ⟨u1, u2, u3, u4⟩ := u
  unfold wpY_isPlace
  dsimp only
  by_cases h0 : x < 0
  · exact br_t h0 (br_t rfl a)
  · rcases h with h | h
    · exact absurd h h0
    · exact br_f h0 (br_t (Int32.lt_of_lt_of_le (by decide) h) (br_t rfl a))
theorem dm_insY {A B : Prop} {u : SY} {j : Nat} (h : j < 7) (b : B) : wpY_isPlace (fun r => (r = 0 → A) ∧ (¬ r = 0 → B)) u (nI j) := by
  obtain ⟨u1, u2, u3, u4⟩ := u
  unfold wpY_isPlace
  dsimp only
  exact br_f (nI_pos (by omega)) (br_f (nI_nlt (a := 6) (by omega) (by decide)) (br_f (by decide) b))
