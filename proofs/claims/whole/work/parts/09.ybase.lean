/-! Y: the small methods and its energy -/
theorem ry_b {x z a b : Int32} {post : Int32 → Prop} {v w : Int32} {R : Prop} (h : post (if x = a ∧ z = b then v else w)) (hr : post w → R) : (x = a → ((z = b → post v) ∧ (¬ z = b → R))) ∧ (¬ x = a → R) := by
  by_cases c1 : x = a
  · by_cases c2 : z = b
    · rw [if_pos ⟨c1, c2⟩] at h; exact br_t c1 (br_t c2 h)
    · rw [if_neg (fun y => c2 y.2)] at h; exact br_t c1 (br_f c2 (hr h))
  · rw [if_neg (fun y => c1 y.1)] at h; exact br_f c1 (hr h)
theorem rf_or {P Q : Prop} [Decidable P] [Decidable Q] {v w : Int32} : (if P ∨ Q then v else w) = if P then v else if Q then v else w := by
  by_cases p : P
  · rw [if_pos (Or.inl p), if_pos p]
  · by_cases q : Q
    · rw [if_pos (Or.inr q), if_neg p, if_pos q]
    · rw [if_neg (fun z => z.elim p q), if_neg p, if_neg q]
theorem rf_st_v (a : Nat → Int32) (i j : Nat) : rf_st a i j = 0 ∨ rf_st a i j = 1 ∨ rf_st a i j = 2 ∨ rf_st a i j = -1 := by
  unfold rf_st
  split
  · exact Or.inl rfl
  · split
    · exact Or.inr (Or.inl rfl)
    · split
      · exact Or.inr (Or.inr (Or.inl rfl))
      · exact Or.inr (Or.inr (Or.inr rfl))
theorem rf_st_n (a : Nat → Int32) (i j : Nat) : rf_st a i j < 0 ↔ rf_st a i j = -1 := by
  rcases rf_st_v a i j with h | h | h | h <;> rw [h] <;> decide
theorem rf_F_y {n : Nat} {m : rf_M} {i j : Nat} (hW : rf_W n m) : rf_F m i j ↔ m i = none ∧ m j = none ∧ ∀ k l, k < n → m k = some l → k < l → ¬ (i < k ∧ k < j ∧ j < l) ∧ ¬ (k < i ∧ i < l ∧ l < j) := by
  constructor
  · rintro ⟨f1, f2, f3⟩
    refine ⟨f1, f2, fun k l hk hm hl => ⟨fun z => ?_, fun z => ?_⟩⟩
    · have := f3 k l z.1 z.2.1 hm
      omega
    · have := f3 l k z.2.1 z.2.2 (hW.1 k l hm).2.2.2
      omega
  · rintro ⟨f1, f2, f3⟩
    refine ⟨f1, f2, fun p q h1 h2 hm => ?_⟩
    obtain ⟨a1, a2, a3, a4⟩ := hW.1 p q hm
    refine ⟨?_, ?_⟩
    · rcases Nat.lt_or_ge q i with z | z
      · exact absurd ⟨z, h1, h2⟩ (f3 q p a2 a4 (by omega)).2
      · exact z
    · rcases Nat.lt_or_ge j q with z | z
      · exact absurd ⟨h1, h2, z⟩ (f3 p q a1 hm (by omega)).1
      · exact z
section
variable {mn sz ls : Int32} {ba bl te tr ma be t : Nat → Int32} {n mm : Nat} {m : rf_M}
theorem ry_strength {post : Int32 → Prop} {i j : Nat} (hi : i < 14) (hj : j < 14) (h : post (rf_st ba i j)) : wpY_strength post (ls, mn, sz, ba, bl, te, tr, ma, be) (nI i) (nI j) := by
  have ci : (nI i).toNatClampNeg = i := nI_clamp (by omega)
  have cj : (nI j).toNatClampNeg = j := nI_clamp (by omega)
  unfold rf_st at h
  rw [rf_or, rf_or, rf_or] at h
  unfold wpY_strength
  rw [ci, cj]
  exact ⟨vp_in_nI hi (by omega), nm_e ⟨vp_in_nI hj (by omega), nm_e (ry_b h fun h => ry_b h fun h => ry_b h fun h => ry_b h fun h => ry_b h fun h => ry_b h fun h => h)⟩⟩
theorem ry_canPair {post : Int32 → Prop} {x y : Int32} (hn : n ≤ 14) (hm : mm ≤ 4)
    (h1 : ∀ i j, x = nI i → y = nI j → i < j → j < n → rf_cp mm ba bl i j → post 1)
    (h0 : (∀ i j, x = nI i → y = nI j → i < j → j < n → ¬ rf_cp mm ba bl i j) → post 0) : wpY_canPair post (ls, nI mm, nI n, ba, bl, te, tr, ma, be) x y := by
  unfold wpY_canPair
  refine br_c (fun c => h0 fun i j e1 e2 h3 h4 => ?_) (fun c => ?_)
  · rw [e1] at c; exact absurd c (nI_pos (by omega))
  · obtain ⟨i, hi, rfl⟩ := nI_of c
    refine br_c (fun c2 => h0 fun i' j e1 e2 h3 h4 => ?_) (fun c2 => ?_)
    · rw [e1, e2] at c2; exact absurd c2 (nI_ge h3 (by omega))
    · refine br_c (fun c3 => ?_) (fun c3 => h0 fun i' j e1 e2 h3 h4 => ?_)
      · have hy : ¬ y < 0 := by
          have e := nI_toInt hi
          rw [Int32.lt_iff_toInt_lt, show (0 : Int32).toInt = 0 from by decide]
          rw [Int32.le_iff_toInt_le] at c2
          omega
        obtain ⟨j, hj, rfl⟩ := nI_of hy
        rw [nI_leI hj hi] at c2
        rw [nI_ltI hj (by omega)] at c3
        have hij : i < j := by omega
        have no : ¬ rf_cp mm ba bl i j → post 0 := fun z => h0 (fun i' j' e1 e2 h3 h4 h5 => by
          have e1' := (nI_eq (by omega) (by omega)).mp e1
          have e2' := (nI_eq (by omega) (by omega)).mp e2
          subst e1' e2'
          exact z h5)
        rw [rf_sub1 hij]
        refine pk_lt (j - i - 1) mm (fun hd => no (fun z => by have := z.1; omega)) (fun hd => ?_)
        have ci : (nI i).toNatClampNeg = i := nI_clamp (by omega)
        have cj : (nI j).toNatClampNeg = j := nI_clamp (by omega)
        refine ⟨vp_in_nI (by omega) (by omega), ?_⟩
        rw [ci]
        refine br_c (fun bi => ⟨vp_in_nI (by omega) (by omega), ?_⟩) (fun bi => no (fun z => bi z.2.1))
        rw [cj]
        refine br_c (fun bj => ?_) (fun bj => no (fun z => bj z.2.2.1))
        refine ry_strength (by omega) (by omega) ?_
        refine br_c (fun s => no (fun z => z.2.2.2 ((rf_st_n _ _ _).mp s))) (fun s => h1 i j rfl rfl hij c3 ⟨by omega, bi, bj, fun z => s ((rf_st_n _ _ _).mpr z)⟩)
      · rw [e2] at c3; exact absurd (nI_lt h4 (by omega)) c3
theorem ry_end {post : Int32 → Prop} {i j : Nat} (hi : i < 14) (hj : j < 14) (h : post (rf_en ba te i j)) : wpY_end post (ls, mn, sz, ba, bl, te, tr, ma, be) (nI i) (nI j) := by
  unfold wpY_end
  refine ry_strength hi hj ?_
  unfold rf_en at h
  by_cases s : rf_st ba i j = 0
  · rw [if_pos s] at h; exact br_t s h
  · rw [if_neg s] at h; exact br_f s h
theorem ry_k21 {post : Int32 → Prop} {x z : Int32} (hx : x = 0 ∨ x = 1 → z = 0 ∨ z = 1 ∨ z = 2) (hx1 : x = 1 → z = 1 ∨ z = 2) (h : post (if x = 0 then (if z = 0 then te 0 else if z = 1 then te 1 else te 2) else if x = 1 then (if z = 1 then te 3 else te 4) else te 5)) : wY_stackEnergy_21 post x z ls mn sz ba bl te tr ma be := by
  unfold wY_stackEnergy_21
  by_cases c1 : x = 0
  · rw [if_pos c1] at h
    refine br_t c1 ?_
    rcases hx (Or.inl c1) with e | e | e <;> subst e
    · exact ⟨vp_in_iff.mpr (by decide), h⟩
    · exact ⟨vp_in_iff.mpr (by decide), h⟩
    · exact ⟨vp_in_iff.mpr (by decide), h⟩
  · rw [if_neg c1] at h
    refine br_f c1 ?_
    by_cases c2 : x = 1
    · rw [if_pos c2] at h
      refine br_t c2 ?_
      rcases hx1 c2 with e | e <;> subst e
      · exact ⟨vp_in_iff.mpr (by decide), h⟩
      · exact ⟨vp_in_iff.mpr (by decide), h⟩
    · rw [if_neg c2] at h; exact br_f c2 h
theorem ry_stack {post : Int32 → Prop} {s t : Int32} (hs : s = 0 ∨ s = 1 ∨ s = 2 ∨ s = -1) (ht : t = 0 ∨ t = 1 ∨ t = 2 ∨ t = -1) (h : post (rf_sk te s t)) : wpY_stackEnergy post (ls, mn, sz, ba, bl, te, tr, ma, be) s t := by
  unfold wpY_stackEnergy wY_stackEnergy_10
  unfold rf_sk at h
  by_cases c : t ≤ s
  · have d : ¬ s < t := Int32.not_lt.mpr c
    simp only [if_neg d] at h
    refine br_t c (br_t c (ry_k21 ?_ ?_ h))
    · rcases hs with e | e | e | e <;> rcases ht with e' | e' | e' | e' <;> subst e <;> subst e' <;> revert c <;> decide
    · rcases hs with e | e | e | e <;> rcases ht with e' | e' | e' | e' <;> subst e <;> subst e' <;> revert c <;> decide
  · have d : s < t := Int32.not_le.mp c
    simp only [if_pos d] at h
    refine br_f c (br_f c (ry_k21 ?_ ?_ h))
    · rcases hs with e | e | e | e <;> rcases ht with e' | e' | e' | e' <;> subst e <;> subst e' <;> revert c <;> decide
    · rcases hs with e | e | e | e <;> rcases ht with e' | e' | e' | e' <;> subst e <;> subst e' <;> revert c <;> decide
theorem ry_one {post : Int32 → Prop} {i j k l : Nat} (h1 : i < k) (h2 : k < 14) (h3 : l < j) (h4 : j < 14) (h : post (rf_on ba te i j k l)) : wpY_oneInside post (ls, mn, sz, ba, bl, te, tr, ma, be) (nI i) (nI j) (nI k) (nI l) := by
  unfold wpY_oneInside
  unfold rf_on at h
  refine nm_r (rf_sub1 h1) (nm_r (rf_sub1 h3) (ry_strength (by omega) (by omega) (ry_strength (by omega) (by omega) ?_)))
  by_cases c : k - i - 1 = 0 ∧ j - l - 1 = 0
  · rw [if_pos c] at h
    refine pk_eq (k - i - 1) 0 (fun c1 => ?_) (fun c1 => absurd c.1 c1)
    refine pk_eq (j - l - 1) 0 (fun c2 => ?_) (fun c2 => absurd c.2 c2)
    exact ry_stack (rf_st_v _ _ _) (rf_st_v _ _ _) h
  · rw [if_neg c] at h
    have g : wY_oneInside_51 post (nI i) (nI j) (nI k) (nI l) (nI (k - i - 1)) (nI (j - l - 1)) ls mn sz ba bl te tr ma be := by
      unfold wY_oneInside_51 wY_oneInside_77 wY_oneInside_122
      refine ry_end (by omega) (by omega) (ry_end (by omega) (by omega) (nm_e ?_))
      rw [nI_add]
      refine pk_eq (k - i - 1) 0 (fun c1 => ?_) (fun c1 => ?_)
      · rw [if_pos (Or.inl c1)] at h; exact h
      · refine pk_eq (j - l - 1) 0 (fun d => ?_) (fun d => ?_)
        · rw [if_pos (Or.inr d)] at h; exact h
        · rw [if_neg (fun z => z.elim c1 d)] at h
          refine pk_le (k - i - 1) (j - l - 1) (fun e => ?_) (fun e => ?_)
          · rw [if_neg (by omega)] at h; rw [pk_sub e]; exact h
          · rw [if_pos e] at h; rw [pk_sub (by omega)]; exact h
    exact pk_eq (k - i - 1) 0 (fun c1 => pk_eq (j - l - 1) 0 (fun c2 => absurd ⟨c1, c2⟩ c) (fun c2 => g)) (fun c1 => g)
theorem ry_fits {post : Int32 → Prop} {i j : Nat} (hn : n ≤ 14) (hij : i < j) (hj : j < n) (hW : rf_W n m)
    (h1 : rf_F m i j → post 1) (h0 : ¬ rf_F m i j → post 0) : wpY_fits post (ls, mn, nI n, ba, bl, te, tr, rf_c (-1) t m, be) (nI i) (nI j) := by
  have ci : (nI i).toNatClampNeg = i := nI_clamp (by omega)
  have cj : (nI j).toNatClampNeg = j := nI_clamp (by omega)
  unfold wpY_fits
  rw [ci, cj]
  cases hmi : m i with
  | some q =>
    have hq := (hW.1 i q hmi).2.1
    exact ⟨vp_in_nI (by omega) (by omega), br_t (by rw [rf_c_s (by omega) hmi]; exact nI_pos' (by omega)) (h0 fun z => by rw [z.1] at hmi; cases hmi)⟩
  | none =>
    refine ⟨vp_in_nI (by omega) (by omega), br_f (by rw [rf_c_n (by omega) hmi]; decide) ⟨vp_in_nI (by omega) (by omega), ?_⟩⟩
    cases hmj : m j with
    | some q =>
      have hq := (hW.1 j q hmj).2.1
      exact br_f (by rw [rf_c_s (by omega) hmj]; exact nI_pos (by omega)) (h0 fun z => by rw [z.2.1] at hmj; cases hmj)
    | none =>
      refine br_t (by rw [rf_c_n (by omega) hmj]; decide) ?_
      have key : ∀ d k, k + d = n → (∀ r l, r < k → m r = some l → r < l → ¬ (i < r ∧ r < j ∧ j < l) ∧ ¬ (r < i ∧ i < l ∧ l < j)) → wY_fits_22 post (nI i) (nI j) ls mn (nI n) ba bl te tr (rf_c (-1) t m) be (d + 1) (nI k) := by
        intro d
        induction d with
        | zero =>
          intro k hk hall
          refine br_t (nI_le (by omega) (by omega)) (h1 ((rf_F_y hW).mpr ⟨hmi, hmj, fun r l r1 => hall r l (by omega)⟩))
        | succ d ih =>
          intro k hk hall
          have ck : (nI k).toNatClampNeg = k := nI_clamp (by omega)
          refine br_f (nI_ge (by omega) (by omega)) ⟨vp_in_nI (by omega) (by omega), ?_⟩
          rw [ck]
          have nxt : (∀ l, m k = some l → k < l → ¬ (i < k ∧ k < j ∧ j < l) ∧ ¬ (k < i ∧ i < l ∧ l < j)) → wY_fits_22 post (nI i) (nI j) ls mn (nI n) ba bl te tr (rf_c (-1) t m) be (d + 1) (nI (k + 1)) := fun hq => ih (k + 1) (by omega) (fun r l r1 r2 r3 => by
            by_cases e : r = k
            · subst e; exact hq l r2 r3
            · exact hall r l (by omega) r2 r3)
          cases hm : m k with
          | none => exact nm_r (rf_c_n (by omega) hm) (br_t (rf_zle rf_z1 (by omega)) (nm_r (nI_1 k) (nxt fun l z => by rw [hm] at z; cases z)))
          | some l =>
            have hl := (hW.1 k l hm).2.1
            refine nm_r (rf_c_s (by omega) hm) (pk_le l k (fun c => nm_r (nI_1 k) (nxt fun l' z z2 => by rw [hm] at z; cases z; omega)) (fun c => ?_))
            have bad : (i < k ∧ k < j ∧ j < l) ∨ (k < i ∧ i < l ∧ l < j) → post 0 := fun z => h0 fun f => by
              have := ((rf_F_y hW).mp f).2.2 k l (by omega) hm c
              exact z.elim this.1 this.2
            have g60 : ¬ (i < k ∧ k < j ∧ j < l) → wY_fits_60 post (wY_fits_22 post (nI i) (nI j) ls mn (nI n) ba bl te tr (rf_c (-1) t m) be (d + 1)) (nI i) (nI j) (nI k) (nI l) ls mn (nI n) ba bl te tr (rf_c (-1) t m) be := by
              intro z
              have go : ¬ (k < i ∧ i < l ∧ l < j) → wY_fits_22 post (nI i) (nI j) ls mn (nI n) ba bl te tr (rf_c (-1) t m) be (d + 1) (nI (k + 1)) := fun z2 => nxt fun l' e _ => by rw [hm] at e; cases e; exact ⟨z, z2⟩
              refine pk_le i k (fun c1 => nm_r (nI_1 k) (go fun y => by omega)) (fun c1 => ?_)
              refine pk_le l i (fun c2 => nm_r (nI_1 k) (go fun y => by omega)) (fun c2 => ?_)
              exact pk_le j l (fun c3 => nm_r (nI_1 k) (go fun y => by omega)) (fun c3 => bad (Or.inr ⟨c1, c2, c3⟩))
            refine pk_le k i (fun c1 => g60 fun y => by omega) (fun c1 => ?_)
            refine pk_le j k (fun c2 => g60 fun y => by omega) (fun c2 => ?_)
            exact pk_lt j l (fun c3 => bad (Or.inl ⟨c1, c2, c3⟩)) (fun c3 => g60 fun y => by omega)
      exact ⟨_, key n 0 (by omega) (fun r l r1 => by omega)⟩
end
