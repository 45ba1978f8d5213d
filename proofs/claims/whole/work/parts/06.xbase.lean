/-! X: the small methods -/
def rf_g (x z : Int32) : Int32 := if x = 1 ∧ z = 2 then 0 else if x = 0 ∧ z = 3 then 1 else if x = 2 ∧ z = 3 then 2 else -1
def rf_h (a b : Int32) : Int32 := if (a = 1 ∧ b = 2) ∨ (a = 2 ∧ b = 1) then 0 else if (a = 0 ∧ b = 3) ∨ (a = 3 ∧ b = 0) then 1 else if (a = 2 ∧ b = 3) ∨ (a = 3 ∧ b = 2) then 2 else -1
theorem rf_h_st {ba : Nat → Int32} {i j : Nat} : rf_h (ba i) (ba j) = rf_st ba i j := rfl
theorem rf_h_le {a b : Int32} (h : b ≤ a) : rf_h a b = rf_g b a := by
  have k1 : ¬ (a = 1 ∧ b = 2) := fun ⟨x, y⟩ => by rw [x, y] at h; exact absurd h (by decide)
  have k2 : ¬ (a = 0 ∧ b = 3) := fun ⟨x, y⟩ => by rw [x, y] at h; exact absurd h (by decide)
  have k3 : ¬ (a = 2 ∧ b = 3) := fun ⟨x, y⟩ => by rw [x, y] at h; exact absurd h (by decide)
  unfold rf_h rf_g
  simp only [k1, k2, k3, false_or, and_comm]
theorem rf_h_gt {a b : Int32} (h : ¬ b ≤ a) : rf_h a b = rf_g a b := by
  have k1 : ¬ (a = 2 ∧ b = 1) := fun ⟨x, y⟩ => by rw [x, y] at h; exact absurd h (by decide)
  have k2 : ¬ (a = 3 ∧ b = 0) := fun ⟨x, y⟩ => by rw [x, y] at h; exact absurd h (by decide)
  have k3 : ¬ (a = 3 ∧ b = 2) := fun ⟨x, y⟩ => by rw [x, y] at h; exact absurd h (by decide)
  unfold rf_h rf_g
  simp only [k1, k2, k3, or_false]
section
variable {mn sz ls tl : Int32} {ba bl te tr wa be : Nat → Int32} {n mm : Nat}
theorem rx_s61 {post : Int32 → Prop} {x z : Int32} (h : post (rf_g x z)) : wX_strength_61 post x z mn sz ls tl ba bl te tr wa be := by
  unfold wX_strength_61 wX_strength_76 wX_strength_88
  unfold rf_g at h
  by_cases c1 : x = 1
  · subst c1
    by_cases c2 : z = 2
    · subst c2; exact br_t rfl (br_t rfl h)
    · rw [if_neg (fun y => c2 y.2), if_neg (fun y => absurd y.1 (by decide)), if_neg (fun y => absurd y.1 (by decide))] at h
      exact br_t rfl (br_f c2 (br_f (by decide) (br_f (by decide) h)))
  · rw [if_neg (fun y => c1 y.1)] at h
    refine br_f c1 ?_
    by_cases c3 : x = 0
    · subst c3
      by_cases c4 : z = 3
      · subst c4; exact br_t rfl (br_t rfl h)
      · rw [if_neg (fun y => c4 y.2), if_neg (fun y => absurd y.1 (by decide))] at h
        exact br_t rfl (br_f c4 (br_f (by decide) h))
    · rw [if_neg (fun y => c3 y.1)] at h
      refine br_f c3 ?_
      by_cases c5 : x = 2
      · subst c5
        by_cases c4 : z = 3
        · subst c4; exact br_t rfl (br_t rfl h)
        · rw [if_neg (fun y => c4 y.2)] at h
          exact br_t rfl (br_f c4 h)
      · rw [if_neg (fun y => c5 y.1)] at h
        exact br_f c5 h
theorem rx_strength {post : Int32 → Prop} {i j : Nat} (hi : i < 14) (hj : j < 14) (h : post (rf_st ba i j)) : wpX_strength post (mn, sz, ls, tl, ba, bl, te, tr, wa, be) (nI i) (nI j) := by
  have vi : vp_in (nI i) 14 := vp_in_nI hi (by omega)
  have vj : vp_in (nI j) 14 := vp_in_nI hj (by omega)
  have ci : (nI i).toNatClampNeg = i := nI_clamp (by omega)
  have cj : (nI j).toNatClampNeg = j := nI_clamp (by omega)
  unfold wpX_strength wX_strength_30
  simp only [ci, cj]
  rw [← rf_h_st] at h
  by_cases o : ba j ≤ ba i
  · rw [rf_h_le o] at h
    exact ⟨vi, vj, br_t o ⟨vj, vi, vj, br_t o ⟨vi, rx_s61 h⟩⟩⟩
  · rw [rf_h_gt o] at h
    exact ⟨vi, vj, br_f o ⟨vi, vi, vj, br_f o ⟨vj, rx_s61 h⟩⟩⟩
theorem rx_isBase {post : Int32 → Prop} {x : Int32} (hn : n ≤ 14) (h1 : ∀ j, j < n → x = nI j → post 1) (h0 : (∀ j, j < n → x ≠ nI j) → post 0) : wpX_isBase post (mn, nI n, ls, tl, ba, bl, te, tr, wa, be) x := by
  unfold wpX_isBase
  rcases pk_ix x (n := n) (by omega) with c | c | ⟨j, c, rfl⟩
  · refine br_t c (h0 fun j hj e => ?_)
    rw [e] at c; exact nI_pos (by omega) c
  · refine br_f ?_ (br_t c (h0 fun j hj e => ?_))
    · intro z
      have := nI_toInt (n := n) (by omega)
      rw [Int32.le_iff_toInt_le] at c
      rw [Int32.lt_iff_toInt_lt, show (0 : Int32).toInt = 0 from by decide] at z
      omega
    · rw [e] at c; exact nI_ge hj (by omega) c
  · exact br_f (nI_pos (by omega)) (br_f (nI_ge c (by omega)) (h1 j c rfl))
/-- two bases can pair: the test that both sides make -/
def rf_cp (mm : Nat) (ba bl : Nat → Int32) (i j : Nat) : Prop := i + mm + 1 ≤ j ∧ bl i = 0 ∧ bl j = 0 ∧ rf_st ba i j ≠ -1
theorem rf_sub1 {i j : Nat} (h : i < j) : nI j - nI i - 1 = nI (j - i - 1) := by
  rw [pk_sub (by omega)]
  obtain ⟨k, hk⟩ : ∃ k, j - i = k + 1 := ⟨j - i - 1, by omega⟩
  rw [hk, nI_pred]; rfl
theorem rx_canPair {post : Int32 → Prop} {x y : Int32} (hn : n ≤ 14) (hm : mm ≤ 4)
    (h1 : ∀ i j, x = nI i → y = nI j → i < j → j < n → rf_cp mm ba bl i j → post 1)
    (h0 : (∀ i j, x = nI i → y = nI j → i < j → j < n → ¬ rf_cp mm ba bl i j) → post 0) : wpX_canPair post (nI mm, nI n, ls, tl, ba, bl, te, tr, wa, be) x y := by
  unfold wpX_canPair
  refine rx_isBase hn (fun i hi ex => ?_) (fun hno => ?_)
  · refine br_f (by decide) ?_
    refine rx_isBase hn (fun j hj ey => ?_) (fun hno => ?_)
    · refine br_f (by decide) ?_
      subst ex ey
      have inj : ∀ i' j', nI i = nI i' → nI j = nI j' → i' < j' → j' < n → i' = i ∧ j' = j := by
        intro i' j' e1 e2 h3 h4
        exact ⟨((nI_eq (by omega) (by omega)).mp e1).symm, ((nI_eq (by omega) (by omega)).mp e2).symm⟩
      have no : ¬ (i < j ∧ rf_cp mm ba bl i j) → post 0 := fun z => h0 (fun i' j' e1 e2 h3 h4 h5 => by
        obtain ⟨rfl, rfl⟩ := inj i' j' e1 e2 h3 h4
        exact z ⟨h3, h5⟩)
      refine pk_lt i j (fun hij => ?_) (fun hij => no (fun z => by omega))
      rw [rf_sub1 hij]
      refine pk_lt (j - i - 1) mm (fun hd => no (fun z => by have := z.2.1; omega)) (fun hd => ?_)
      have ci : (nI i).toNatClampNeg = i := nI_clamp (by omega)
      have cj : (nI j).toNatClampNeg = j := nI_clamp (by omega)
      refine ⟨vp_in_nI (by omega) (by omega), ?_⟩
      rw [ci]
      refine br_c (fun bi => ⟨vp_in_nI (by omega) (by omega), ?_⟩) (fun bi => no (fun z => bi z.2.2.1))
      rw [cj]
      refine br_c (fun bj => ?_) (fun bj => no (fun z => bj z.2.2.2.1))
      refine rx_strength (by omega) (by omega) ?_
      refine br_c (fun s => no (fun z => z.2.2.2.2 s)) (fun s => h1 i j rfl rfl hij hj ⟨by omega, bi, bj, s⟩)
    · refine br_t rfl (h0 fun i' j' e1 e2 h3 h4 => absurd e2 (hno j' h4))
  · refine br_t rfl (h0 fun i' j' e1 e2 h3 h4 => absurd e1 (hno i' (by omega)))
theorem rx_end {post : Int32 → Prop} {i j : Nat} (hi : i < 14) (hj : j < 14) (h : post (rf_en ba te i j)) : wpX_endEnergy post (mn, sz, ls, tl, ba, bl, te, tr, wa, be) (nI i) (nI j) := by
  unfold wpX_endEnergy
  refine rx_strength hi hj ?_
  unfold rf_en at h
  by_cases s : rf_st ba i j = 0
  · rw [if_pos s] at h; exact br_t s h
  · rw [if_neg s] at h; exact br_f s h
theorem rx_k21 {post : Int32 → Prop} {x z : Int32} (h : post (if x = 0 then (if z = 0 then te 0 else if z = 1 then te 1 else te 2) else if x = 1 then (if z = 1 then te 3 else te 4) else te 5)) : wX_stackEnergy_21 post x z mn sz ls tl ba bl te tr wa be := by
  unfold wX_stackEnergy_21
  by_cases c1 : x = 0
  · rw [if_pos c1] at h
    refine br_t c1 ?_
    by_cases c2 : z = 0
    · rw [if_pos c2] at h; exact br_t c2 h
    · rw [if_neg c2] at h
      refine br_f c2 ?_
      by_cases c3 : z = 1
      · rw [if_pos c3] at h; exact br_t c3 h
      · rw [if_neg c3] at h; exact br_f c3 h
  · rw [if_neg c1] at h
    refine br_f c1 ?_
    by_cases c2 : x = 1
    · rw [if_pos c2] at h
      refine br_t c2 ?_
      by_cases c3 : z = 1
      · rw [if_pos c3] at h; exact br_t c3 h
      · rw [if_neg c3] at h; exact br_f c3 h
    · rw [if_neg c2] at h; exact br_f c2 h
theorem rx_stack {post : Int32 → Prop} {s t : Int32} (h : post (rf_sk te s t)) : wpX_stackEnergy post (mn, sz, ls, tl, ba, bl, te, tr, wa, be) s t := by
  unfold wpX_stackEnergy wX_stackEnergy_10
  unfold rf_sk at h
  by_cases c : t ≤ s
  · have d : ¬ s < t := Int32.not_lt.mpr c
    simp only [if_neg d] at h
    exact br_t c (br_t c (rx_k21 h))
  · have d : s < t := Int32.not_le.mp c
    simp only [if_pos d] at h
    exact br_f c (br_f c (rx_k21 h))
theorem rx_i51 {post : Int32 → Prop} {en : Int32} {x y : Nat} (hx : x < 14) (hy : y < 14) (hh : ¬ (x = 0 ∧ y = 0))
    (h : post (if x = 0 ∨ y = 0 then te 8 + te 9 * nI (x + y) + en else te 10 + te 11 * nI (x + y) + te 12 * nI (if y < x then x - y else y - x) + en)) : wX_innerLoopEnergy_51 post en (nI x) (nI y) mn sz ls tl ba bl te tr wa be := by
  unfold wX_innerLoopEnergy_51 wX_innerLoopEnergy_61 wX_innerLoopEnergy_106
  rw [nI_add]
  refine pk_eq x 0 (fun c => ?_) (fun c => ?_)
  · rw [if_pos (Or.inl c)] at h; exact h
  · refine pk_eq y 0 (fun d => ?_) (fun d => ?_)
    · rw [if_pos (Or.inr d)] at h; exact h
    · rw [if_neg (fun z => z.elim c d)] at h
      refine pk_le x y (fun e => ?_) (fun e => ?_)
      · rw [if_neg (by omega)] at h; rw [pk_sub e]; exact h
      · rw [if_pos e] at h; rw [pk_sub (by omega)]; exact h
theorem rx_inner {post : Int32 → Prop} {i j k l : Nat} (h1 : i < k) (h2 : k < 14) (h3 : l < j) (h4 : j < 14) (h : post (rf_on ba te i j k l)) : wpX_innerLoopEnergy post (mn, sz, ls, tl, ba, bl, te, tr, wa, be) (nI i) (nI j) (nI k) (nI l) (rf_en ba te i j + rf_en ba te k l) := by
  unfold wpX_innerLoopEnergy
  unfold rf_on at h
  refine nm_r (rf_sub1 h1) (nm_r (rf_sub1 h3) ?_)
  by_cases c : k - i - 1 = 0 ∧ j - l - 1 = 0
  · rw [if_pos c] at h
    refine pk_eq (k - i - 1) 0 (fun c1 => ?_) (fun c1 => absurd c.1 c1)
    refine pk_eq (j - l - 1) 0 (fun c2 => ?_) (fun c2 => absurd c.2 c2)
    exact rx_strength (by omega) (by omega) (rx_strength (by omega) (by omega) (rx_stack h))
  · rw [if_neg c] at h
    have g := rx_i51 (mn := mn) (sz := sz) (ls := ls) (tl := tl) (ba := ba) (bl := bl) (te := te) (tr := tr) (wa := wa) (be := be) (post := post) (en := rf_en ba te i j + rf_en ba te k l) (x := k - i - 1) (y := j - l - 1) (by omega) (by omega) c h
    exact pk_eq (k - i - 1) 0 (fun c1 => pk_eq (j - l - 1) 0 (fun c2 => absurd ⟨c1, c2⟩ c) (fun c2 => g)) (fun c1 => g)
theorem rx_copy {post : SX → Prop} (h : post (mn, sz, ls, tl, ba, bl, te, tr, wa, rf_cpy wa be 14)) : wpX_copyWalkToBest post (mn, sz, ls, tl, ba, bl, te, tr, wa, be) := by
  unfold wpX_copyWalkToBest
  have key : ∀ d i, i + d = 14 → wX_copyWalkToBest_2 post mn sz ls tl (d + 1) (nI i) ba bl te tr wa (rf_cpy wa be i) := by
    intro d
    induction d with
    | zero => intro i hi; have e : i = 14 := by omega
              subst e; exact br_t (by decide) h
    | succ d ih =>
      intro i hi
      have ci : (nI i).toNatClampNeg = i := nI_clamp (by omega)
      have vi : vp_in (nI i) 14 := vp_in_nI (by omega) (by omega)
      refine br_f (nI_ge (b := 14) (by omega) (by decide)) ⟨vi, vi, nm_r (by rw [ci, rf_cpy_s]) (nm_r (nI_1 i) (ih (i + 1) (by omega)))⟩
  refine ⟨15, ?_⟩
  have g := key 14 0 rfl
  rw [rf_cpy_0] at g
  exact g
end
