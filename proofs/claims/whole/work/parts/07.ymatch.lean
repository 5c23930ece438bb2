/-! the reference: how many, one more row, the size of a largest matching -/
theorem dm_sz4 {post : Int32 → Prop} {s : Nat} {r c t g : Nat → Int32} (hs : s < 128) (K : post (nI (dm_ct s))) :
    ∀ d k, k + d = 7 → wY_sizeOf_4 post (nI s) r c t g (d + 1) (nI (dm_nb (fun i => s.testBit i) k)) (nI k) := by
  intro d
  induction d with
  | zero =>
    intro k hk
    obtain rfl : k = 7 := by omega
    rw [dm_nb_ct s hs]
    exact dm_g7 K
  | succ d ih =>
    intro k hk
    have hk7 : k < 7 := by omega
    have h := ih (k + 1) (by omega)
    refine dm_l7 hk7 (dm_in hs hk7 (fun hb => nm_r (nI_1 k) ?_) (fun hb => nm_r (nI_1 _) (nm_r (nI_1 k) ?_)))
    · rw [dm_nb_f (p := fun i => s.testBit i) hb] at h
      exact h
    · rw [dm_nb_t (p := fun i => s.testBit i) hb] at h
      exact h
theorem dm_sz {post : Int32 → Prop} {s : Nat} {u : SY} (hs : s < 128) (K : post (nI (dm_ct s))) : wpY_sizeOf post u (nI s) := by
  obtain ⟨r, c, t, g⟩ := u
  exact ⟨7 + 1, dm_sz4 hs K 7 0 rfl⟩
/-! an answer that is 1 just where P holds -/
def dm_b1 (x : Int32) (P : Prop) : Prop := (P ∧ x = 1) ∨ (¬ P ∧ x = 0)
theorem dm_b1_cg {x : Int32} {P Q : Prop} (h : P ↔ Q) (a : dm_b1 x P) : dm_b1 x Q := by
  rcases a with ⟨a, b⟩ | ⟨a, b⟩
  · exact Or.inl ⟨h.1 a, b⟩
  · exact Or.inr ⟨fun z => a (h.2 z), b⟩
theorem dm_b1_n {x : Int32} {P : Prop} (a : dm_b1 x P) : vp_nar .boolean x = x := by
  rw [dm_vn]
  rcases a with ⟨_, b⟩ | ⟨_, b⟩ <;> rw [b] <;> decide
theorem dm_b1_b {x : Int32} {P A B : Prop} (a : dm_b1 x P) (f : ¬ P → A) (g : P → B) : (x = 0 → A) ∧ (¬ x = 0 → B) := by
  rcases a with ⟨a, b⟩ | ⟨a, b⟩
  · exact br_f (by rw [b]; decide) (g a)
  · exact br_t b (f a)
/-! the sets that a new row reaches, by pairs of a set and a column in the walk's order -/
def dm_Q (P : Nat → Prop) (e q T : Nat) : Prop := P T ∨ ∃ d, d < 7 ∧ e.testBit d = true ∧ T.testBit d = true ∧ P (dm_x T d) ∧ 7 * dm_x T d + d < q
theorem dm_Q_0 (P : Nat → Prop) (e T : Nat) : P T ↔ dm_Q P e 0 T := ⟨fun h => Or.inl h, fun h => h.elim id (fun ⟨_, _, _, _, _, z⟩ => absurd z (by omega))⟩
theorem dm_Q_s (P : Nat → Prop) (e T : Nat) {s c : Nat} (hc : c < 7) : dm_Q P e (7 * s + c + 1) T ↔ (dm_Q P e (7 * s + c) T ∨ (P s ∧ e.testBit c = true ∧ s.testBit c = false ∧ T = dm_x s c)) := by
  constructor
  · rintro (h | ⟨d, hd, h1, h2, h3, h4⟩)
    · exact Or.inl (Or.inl h)
    · by_cases hl : 7 * dm_x T d + d < 7 * s + c
      · exact Or.inl (Or.inr ⟨d, hd, h1, h2, h3, hl⟩)
      · obtain rfl : d = c := by omega
        have e1 : dm_x T d = s := by omega
        rw [e1] at h3
        refine Or.inr ⟨h3, h1, ?_, ?_⟩
        · rw [← e1, dm_x_self, h2]
          rfl
        · rw [← e1, dm_x_x]
  · rintro ((h | ⟨d, hd, h1, h2, h3, h4⟩) | ⟨h1, h2, h3, h4⟩)
    · exact Or.inl h
    · exact Or.inr ⟨d, hd, h1, h2, h3, by omega⟩
    · subst h4
      refine Or.inr ⟨c, hc, h2, ?_, ?_, ?_⟩
      · rw [dm_x_self, h3]
        rfl
      · rw [dm_x_x]
        exact h1
      · rw [dm_x_x]
        omega
theorem dm_tk96 {post : SY → Prop} {rows thn good : Nat → Int32} {Q : Nat → Prop} (ht : ∀ T, T < 128 → dm_b1 (thn T) (Q T)) (K : ∀ can, (∀ T, T < 128 → dm_b1 (can T) (Q T)) → post (rows, can, thn, good)) :
    ∀ d i can, i + d = 128 → (∀ T, T < i → can T = thn T) → wY_takeRow_96 post (d + 1) (nI i) rows can thn good := by
  intro d
  induction d with
  | zero =>
    intro i can hi hI
    obtain rfl : i = 128 := by omega
    refine dm_g128 (K can (fun T hT => ?_))
    rw [hI T hT]
    exact ht T hT
  | succ d ih =>
    intro i can hi hI
    have hi' : i < 128 := by omega
    refine dm_l128 hi' ⟨dm_i128 hi', dm_i128 hi', nm_e (nm_r (nI_1 i) (ih (i + 1) _ (by omega) (fun T hT => ?_)))⟩
    rw [dm_cl hi']
    by_cases h : T = i
    · rw [h, pk_us]
      exact dm_b1_n (ht i hi')
    · rw [pk_un h]
      exact hI T (by omega)
theorem dm_tk38 {post : SY → Prop} {J29 : Int32 → (Nat → Int32) → (Nat → Int32) → (Nat → Int32) → (Nat → Int32) → Prop} {rows can good : Nat → Int32} {P : Nat → Prop} {e s : Nat} (he : e < 128) (hs : s < 128) (hc : ∀ T, T < 128 → dm_b1 (can T) (P T))
    (K : ∀ thn, (∀ T, T < 128 → dm_b1 (thn T) (dm_Q P e (7 * (s + 1)) T)) → J29 (nI (s + 1)) rows can thn good) :
    ∀ d c thn, c + d = 7 → (∀ T, T < 128 → dm_b1 (thn T) (dm_Q P e (7 * s + c) T)) → wY_takeRow_38 post J29 (nI e) (nI s) (d + 1) (nI c) rows can thn good := by
  intro d
  induction d with
  | zero =>
    intro c thn hd hI
    obtain rfl : c = 7 := by omega
    exact dm_g7 (nm_r (nI_1 s) (K thn (fun T hT => by rw [show 7 * (s + 1) = 7 * s + 7 from by omega]; exact hI T hT)))
  | succ d ih =>
    intro c thn hd hI
    have hc7 : c < 7 := by omega
    have hskip : ¬ (P s ∧ e.testBit c = true ∧ s.testBit c = false) → ∀ x, x = nI c + 1 → wY_takeRow_38 post J29 (nI e) (nI s) (d + 1) x rows can thn good := by
      intro hn
      refine nm_r (nI_1 c) (ih (c + 1) thn (by omega) (fun T hT => dm_b1_cg ?_ (hI T hT)))
      rw [show 7 * s + (c + 1) = 7 * s + c + 1 from by omega, dm_Q_s P e T hc7]
      exact ⟨fun z => Or.inl z, fun z => z.elim id (fun y => absurd ⟨y.1, y.2.1, y.2.2.1⟩ hn)⟩
    have hcs : dm_b1 (can (nI s).toNatClampNeg) (P s) := by rw [dm_cl hs]; exact hc s hs
    refine dm_l7 hc7 ⟨dm_i128 hs, dm_b1_b hcs (fun hp => hskip (fun z => hp z.1)) (fun hp => dm_in he hc7 (fun hb => hskip (fun z => ?_)) (fun hb => dm_in hs hc7 (fun hb2 => ?_) (fun hb2 => hskip (fun z => ?_))))⟩
    · rw [hb] at z
      exact absurd z.2.1 (by decide)
    · have ex : nI s ||| ((1 : Int32) <<< (nI c &&& 31)) = nI (dm_x s c) := by rw [dm_sor hc7, dm_orx c hc7 s hs hb2]
      have hx : dm_x s c < 128 := dm_x_lt hs hc7
      rw [ex]
      refine ⟨dm_i128 hx, nm_r (e' := upd thn (dm_x s c) 1) (by rw [dm_cl hx]; rfl) (nm_r (nI_1 c) (ih (c + 1) _ (by omega) (fun T hT => ?_)))⟩
      rw [show 7 * s + (c + 1) = 7 * s + c + 1 from by omega]
      by_cases hT2 : T = dm_x s c
      · rw [hT2, pk_us]
        exact Or.inl ⟨(dm_Q_s P e _ hc7).2 (Or.inr ⟨hp, hb, hb2, rfl⟩), rfl⟩
      · rw [pk_un hT2]
        refine dm_b1_cg ?_ (hI T hT)
        rw [dm_Q_s P e T hc7]
        exact ⟨fun z => Or.inl z, fun z => z.elim id (fun y => absurd y.2.2.2 hT2)⟩
    · rw [hb2] at z
      exact absurd z.2.2 (by decide)
theorem dm_tk29 {post : SY → Prop} {rows can good : Nat → Int32} {P : Nat → Prop} {e : Nat} (he : e < 128) (hc : ∀ T, T < 128 → dm_b1 (can T) (P T))
    (K : ∀ can thn, (∀ T, T < 128 → dm_b1 (can T) (dm_Q P e (7 * 128) T)) → post (rows, can, thn, good)) :
    ∀ d s thn, s + d = 128 → (∀ T, T < 128 → dm_b1 (thn T) (dm_Q P e (7 * s) T)) → wY_takeRow_29 post (nI e) (d + 1) (nI s) rows can thn good := by
  intro d
  induction d with
  | zero =>
    intro s thn hd hI
    obtain rfl : s = 128 := by omega
    exact dm_g128 ⟨128 + 1, dm_tk96 hI (fun can' h => K can' thn h) 128 0 can rfl (fun T hT => absurd hT (by omega))⟩
  | succ d ih =>
    intro s thn hd hI
    have hs : s < 128 := by omega
    exact dm_l128 hs ⟨7 + 1, dm_tk38 he hs hc (fun thn' h => ih (s + 1) thn' (by omega) h) 7 0 thn rfl hI⟩
theorem dm_tk2 {post : SY → Prop} {rows can good : Nat → Int32} {P : Nat → Prop} {e : Nat} (he : e < 128) (hc : ∀ T, T < 128 → dm_b1 (can T) (P T))
    (K : ∀ can thn, (∀ T, T < 128 → dm_b1 (can T) (dm_Q P e (7 * 128) T)) → post (rows, can, thn, good)) :
    ∀ d i thn, i + d = 128 → (∀ T, T < i → thn T = can T) → wY_takeRow_2 post (nI e) (d + 1) (nI i) rows can thn good := by
  intro d
  induction d with
  | zero =>
    intro i thn hi hI
    obtain rfl : i = 128 := by omega
    refine dm_g128 ⟨128 + 1, dm_tk29 he hc K 128 0 thn rfl (fun T hT => ?_)⟩
    rw [hI T hT]
    exact dm_b1_cg (dm_Q_0 P e T) (hc T hT)
  | succ d ih =>
    intro i thn hi hI
    have hi' : i < 128 := by omega
    refine dm_l128 hi' ⟨dm_i128 hi', dm_i128 hi', nm_e (nm_r (nI_1 i) (ih (i + 1) _ (by omega) (fun T hT => ?_)))⟩
    rw [dm_cl hi']
    by_cases h : T = i
    · rw [h, pk_us]
      exact dm_b1_n (hc i hi')
    · rw [pk_un h]
      exact hI T (by omega)
theorem dm_tk {post : SY → Prop} {rows can thn good : Nat → Int32} {E : Nat → Nat} {k : Nat} (he : E k < 128) (hc : ∀ T, T < 128 → dm_b1 (can T) (dm_cn E k T))
    (K : ∀ can thn, (∀ T, T < 128 → dm_b1 (can T) (dm_cn E (k + 1) T)) → post (rows, can, thn, good)) : wpY_takeRow post (rows, can, thn, good) (nI (E k)) := by
  refine ⟨128 + 1, dm_tk2 he hc (fun can' thn' h => K can' thn' (fun T hT => dm_b1_cg ?_ (h T hT))) 128 0 thn rfl (fun T hT => absurd hT (by omega))⟩
  constructor
  · rintro (z | ⟨d, hd, h1, h2, h3, _⟩)
    · exact Or.inl z
    · exact Or.inr ⟨d, hd, h1, h2, h3⟩
  · rintro (z | ⟨d, hd, h1, h2, h3⟩)
    · exact Or.inl z
    · refine Or.inr ⟨d, hd, h1, h2, h3, ?_⟩
      have := dm_x_lt hT hd
      omega
/-! the largest among the sets that can be covered -/
theorem dm_sw105 {post : Int32 → SY → Prop} {rows can thn good : Nat → Int32} {E : Nat → Nat} (hc : ∀ T, T < 128 → dm_b1 (can T) (dm_cn E 7 T)) (K : post (nI (dm_nu E)) (rows, can, thn, good)) :
    ∀ d i b, i + d = 128 → (∃ T, dm_cn E 7 T ∧ dm_ct T = b) → (∀ T, T < i → dm_cn E 7 T → dm_ct T ≤ b) → wY_sizeWithout_105 post rows can thn good (d + 1) (nI b) (nI i) := by
  intro d
  induction d with
  | zero =>
    intro i b hi h1 h2
    obtain rfl : i = 128 := by omega
    refine dm_g128 ?_
    rw [dm_nu_eq h1 (fun T hT => h2 T (dm_cn_lt hT) hT)]
    exact K
  | succ d ih =>
    intro i b hi h1 h2
    have hi' : i < 128 := by omega
    have hb : b ≤ 7 := by
      obtain ⟨T, _, e⟩ := h1
      rw [← e]
      exact dm_ct_7 T
    have hci : dm_b1 (can (nI i).toNatClampNeg) (dm_cn E 7 i) := by rw [dm_cl hi']; exact hc i hi'
    have hskip : (dm_cn E 7 i → dm_ct i ≤ b) → ∀ x, x = nI i + 1 → wY_sizeWithout_105 post rows can thn good (d + 1) (nI b) x := by
      intro hn
      refine nm_r (nI_1 i) (ih (i + 1) b (by omega) h1 (fun T hT hcn => ?_))
      by_cases h : T = i
      · subst h
        exact hn hcn
      · exact h2 T (by omega) hcn
    refine dm_l128 hi' ⟨dm_i128 hi', dm_b1_b hci (fun hn => br_t (nI_pos' (by omega)) (hskip (fun z => absurd z hn))) (fun hp => dm_sz hi' ?_)⟩
    have h7 := dm_ct_7 i
    refine pk_le (dm_ct i) b (fun hle => hskip (fun _ => hle)) (fun hlt => nm_r (nI_1 i) (ih (i + 1) (dm_ct i) (by omega) ⟨i, hp, rfl⟩ (fun T hT hcn => ?_)))
    by_cases h : T = i
    · subst h
      exact Nat.le_refl _
    · have := h2 T (by omega) hcn
      omega
theorem dm_cn_0 (E : Nat → Nat) : ∀ k, dm_cn E k 0 := by
  intro k
  induction k with
  | zero => exact rfl
  | succ k ih => exact Or.inl ih
theorem dm_cn_z {E : Nat → Nat} {k T : Nat} (h : E k = 0) : dm_cn E k T ↔ dm_cn E (k + 1) T := by
  constructor
  · exact fun z => Or.inl z
  · rintro (z | ⟨c, _, z, _⟩)
    · exact z
    · rw [h, Nat.zero_testBit] at z
      exact absurd z (by decide)
theorem dm_sw76 {post : Int32 → SY → Prop} {J37 : Int32 → (Nat → Int32) → (Nat → Int32) → (Nat → Int32) → (Nat → Int32) → Prop} {x2 x3 x4 : Int32} {rows can thn good : Nat → Int32} {E : Nat → Nat} {w k col : Nat} (hw : w < 8) (hk : k < 7) (hcol : col < 128)
    (h0 : k = w → E k = 0) (h1 : k ≠ w → E k = col) (hc : ∀ T, T < 128 → dm_b1 (can T) (dm_cn E k T))
    (K : ∀ can thn, (∀ T, T < 128 → dm_b1 (can T) (dm_cn E (k + 1) T)) → J37 (nI (k + 1)) rows can thn good) :
    wY_sizeWithout_76 post J37 (nI w) x2 x3 x4 (nI k) (nI col) rows can thn good := by
  have hz : E k = 0 → ∀ x, x = nI k + 1 → J37 x rows can thn good := fun z => nm_r (nI_1 k) (K can thn (fun T hT => dm_b1_cg (dm_cn_z z) (hc T hT)))
  refine pk_eq k w (fun z => hz (h0 z)) (fun z => dm_eq0 (by omega) (fun y => hz ((h1 z).trans y)) (fun y => ?_))
  have e := h1 z
  rw [← e]
  exact dm_tk (by rw [e]; exact hcol) hc (fun can' thn' h => nm_r (nI_1 k) (K can' thn' h))
theorem dm_sw37 {post : Int32 → SY → Prop} {rows good : Nat → Int32} {g : Nat → Nat} {w h r c : Nat} (hg : dm_G g rows) (hw : w < 8) (hh : h < 8) (hr : r < 8) (hc8 : c < 8)
    (K : ∀ can thn, post (nI (dm_nu (dm_wo g w h r c))) (rows, can, thn, good)) :
    ∀ d k can thn, k + d = 7 → (∀ T, T < 128 → dm_b1 (can T) (dm_cn (dm_wo g w h r c) k T)) → wY_sizeWithout_37 post (nI w) (nI h) (nI r) (nI c) (d + 1) (nI k) rows can thn good := by
  intro d
  induction d with
  | zero =>
    intro k can thn hk hI
    obtain rfl : k = 7 := by omega
    exact dm_g7 ⟨128 + 1, dm_sw105 hI (K can thn) 128 0 0 rfl ⟨0, dm_cn_0 _ 7, rfl⟩ (fun T hT => absurd hT (by omega))⟩
  | succ d ih =>
    intro k can thn hk hI
    have hk7 : k < 7 := by omega
    obtain ⟨ga, gb⟩ := hg k hk7
    have hl1 : dm_an (g k) h < 128 := dm_an_lt gb
    have hl2 : dm_an (dm_an (g k) h) c < 128 := dm_an_lt hl1
    have h0 : k = w → dm_wo g w h r c k = 0 := by
      intro z
      unfold dm_wo
      rw [if_pos (Or.inl z)]
    have hnw : k ≠ w → ¬ (k = w ∨ 7 ≤ k) := by
      intro z y
      rcases y with y | y
      · exact z y
      · omega
    refine dm_l7 hk7 ⟨dm_i7 hk7, nm_r (e' := nI (dm_an (g k) h)) (by rw [dm_cl (by omega), ga, dm_san h hh _ gb]) (pk_eq k r (fun z => ?_) (fun z => ?_))⟩
    · refine nm_r (e' := nI (dm_an (dm_an (g k) h) c)) (dm_san c hc8 _ hl1) (dm_sw76 hw hk7 hl2 h0 (fun y => ?_) hI (fun can' thn' hI' => ih (k + 1) can' thn' (by omega) hI'))
      unfold dm_wo
      rw [if_neg (hnw y), if_pos z]
    · refine dm_sw76 hw hk7 hl1 h0 (fun y => ?_) hI (fun can' thn' hI' => ih (k + 1) can' thn' (by omega) hI')
      unfold dm_wo
      rw [if_neg (hnw y), if_neg z]
theorem dm_sw3 {post : Int32 → SY → Prop} {rows good : Nat → Int32} {g : Nat → Nat} {w h r c : Nat} (hg : dm_G g rows) (hw : w < 8) (hh : h < 8) (hr : r < 8) (hc8 : c < 8)
    (K : ∀ can thn, post (nI (dm_nu (dm_wo g w h r c))) (rows, can, thn, good)) :
    ∀ d i can thn, i + d = 128 → (∀ T, T < i → dm_b1 (can T) (T = 0)) → wY_sizeWithout_3 post (nI w) (nI h) (nI r) (nI c) (d + 1) (nI i) rows can thn good := by
  intro d
  induction d with
  | zero =>
    intro i can thn hi hI
    obtain rfl : i = 128 := by omega
    exact dm_g128 ⟨7 + 1, dm_sw37 hg hw hh hr hc8 K 7 0 can thn rfl hI⟩
  | succ d ih =>
    intro i can thn hi hI
    have hi' : i < 128 := by omega
    refine dm_l128 hi' (dm_eq0 (by omega) (fun z => ⟨dm_i128 hi', nm_e (nm_r (nI_1 i) (ih (i + 1) _ thn (by omega) (fun T hT => ?_)))⟩) (fun z => ⟨dm_i128 hi', nm_e (nm_r (nI_1 i) (ih (i + 1) _ thn (by omega) (fun T hT => ?_)))⟩))
    · rw [dm_cl hi']
      by_cases y : T = i
      · rw [y, pk_us]
        exact Or.inl ⟨z, rfl⟩
      · rw [pk_un y]
        exact hI T (by omega)
    · rw [dm_cl hi']
      by_cases y : T = i
      · rw [y, pk_us]
        exact Or.inr ⟨z, rfl⟩
      · rw [pk_un y]
        exact hI T (by omega)
theorem dm_sw {post : Int32 → SY → Prop} {rows can thn good : Nat → Int32} {g : Nat → Nat} {w h r c : Nat} (hg : dm_G g rows) (hw : w < 8) (hh : h < 8) (hr : r < 8) (hc8 : c < 8)
    (K : ∀ can thn, post (nI (dm_nu (dm_wo g w h r c))) (rows, can, thn, good)) : wpY_sizeWithout post (rows, can, thn, good) (nI w) (nI h) (nI r) (nI c) :=
  ⟨128 + 1, dm_sw3 hg hw hh hr hc8 K 128 0 can thn rfl (fun T hT => absurd hT (by omega))⟩
