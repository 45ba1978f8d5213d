/-! Y: the energy of a structure -/
section
variable {mn sz ls : Int32} {ba bl te tr ma be t : Nat → Int32} {n mm : Nat} {m : rf_M}
theorem ry_inside {post : Int32 → Prop} {k l i j : Nat} (hn : n ≤ 14) (hW : rf_W n m) (hk : k < 14) (hl : l < 14) (hi : i < 14) (hj : j < 14)
    (h1 : rf_I m i j k l → post 1) (h0 : ¬ rf_I m i j k l → post 0) : wpY_directlyInside post (ls, mn, sz, ba, bl, te, tr, rf_c (-1) t m, be) (nI k) (nI l) (nI i) (nI j) := by
  unfold wpY_directlyInside
  refine pk_le k i (fun c => h0 fun z => by have := z.1; omega) (fun c => ?_)
  refine pk_lt l j (fun c2 => nm_r (nI_1 i) ?_) (fun c2 => h0 fun z => by have := z.2.1; omega)
  have key : ∀ d p, p + d = k → i < p → (∀ r q, i < r → r < p → m r = some q → ¬ (l < q ∧ q < j)) → wY_directlyInside_18 post (nI k) (nI l) (nI j) ls mn sz ba bl te tr (rf_c (-1) t m) be (d + 1) (nI p) := by
    intro d
    induction d with
    | zero =>
      intro p hp hip hall
      exact br_t (nI_le (by omega) (by omega)) (h1 ⟨c, c2, fun r q r1 r2 => hall r q r1 (by omega)⟩)
    | succ d ih =>
      intro p hp hip hall
      have cp : (nI p).toNatClampNeg = p := nI_clamp (by omega)
      refine br_f (nI_ge (by omega) (by omega)) ⟨vp_in_nI (by omega) (by omega), ?_⟩
      rw [cp]
      have nxt : (∀ q, m p = some q → ¬ (l < q ∧ q < j)) → wY_directlyInside_18 post (nI k) (nI l) (nI j) ls mn sz ba bl te tr (rf_c (-1) t m) be (d + 1) (nI (p + 1)) := fun hq => ih (p + 1) (by omega) (by omega) (fun r q r1 r2 r3 => by
        by_cases e : r = p
        · subst e; exact hq q r3
        · exact hall r q r1 (by omega) r3)
      cases hm : m p with
      | none =>
        rw [rf_c_n (by omega) hm]
        exact br_t (rf_zle rf_z1 (by omega)) (nm_r (nI_1 p) (nxt fun q z => by rw [hm] at z; cases z))
      | some q =>
        have hq := (hW.1 p q hm).2.1
        rw [rf_c_s (by omega) hm]
        refine pk_le q l (fun d1 => nm_r (nI_1 p) (nxt fun q' z => by rw [hm] at z; cases z; omega)) (fun d1 => ⟨vp_in_nI (by omega) (by omega), ?_⟩)
        exact pk_le j q (fun d2 => nm_r (nI_1 p) (nxt fun q' z => by rw [hm] at z; cases z; omega)) (fun d2 => h0 fun z => z.2.2 p q hip (by omega) hm ⟨d1, d2⟩)
  exact ⟨_, key (k - (i + 1)) (i + 1) (by omega) (by omega) (fun r q r1 r2 => by omega)⟩
theorem ry_pairs {post : Int32 → Prop} {i j : Nat} (hn : n ≤ 14) (hW : rf_W n m) (hij : i < j) (hj : j < 14) (h : post (nI (rf_ct (rf_C m i j) j))) : wpY_pairsDirectlyInside post (ls, mn, sz, ba, bl, te, tr, rf_c (-1) t m, be) (nI i) (nI j) := by
  unfold wpY_pairsDirectlyInside
  refine nm_r (nI_1 i) ?_
  have lo : ∀ k, k < i + 1 → ¬ rf_C m i j k := fun k hk ⟨l, z1, z2, z3⟩ => by have := z3.1; omega
  have key : ∀ d p, p + d = j → i < p → wY_pairsDirectlyInside_7 post (nI i) (nI j) ls mn sz ba bl te tr (rf_c (-1) t m) be (d + 1) (nI (rf_ct (rf_C m i j) p)) (nI p) := by
    intro d
    induction d with
    | zero =>
      intro p hp hip
      have e : p = j := by omega
      subst e
      exact br_t (nI_le (Nat.le_refl _) (by omega)) h
    | succ d ih =>
      intro p hp hip
      have cp : (nI p).toNatClampNeg = p := nI_clamp (by omega)
      have g := ih (p + 1) (by omega) (by omega)
      refine br_f (nI_ge (by omega) (by omega)) ⟨vp_in_nI (by omega) (by omega), ?_⟩
      rw [cp]
      by_cases hm : ∃ l, m p = some l ∧ p < l
      · obtain ⟨l, hm, hl⟩ := hm
        have hl2 := (hW.1 p l hm).2.1
        rw [rf_c_s (by omega) hm]
        refine br_f (nI_ge hl (by omega)) ⟨vp_in_nI (by omega) (by omega), ry_inside hn hW (by omega) (by omega) (by omega) (by omega) (fun z => ?_) (fun z => ?_)⟩
        · rw [rf_ct_t (show rf_C m i j p from ⟨l, hm, hl, z⟩)] at g
          exact br_f (by decide) (nm_r (nI_1 _) (nm_r (nI_1 p) g))
        · rw [rf_ct_f (fun ⟨l', y1, y2, y3⟩ => z (by rw [hm] at y1; cases y1; exact y3))] at g
          exact br_t rfl (nm_r (nI_1 p) g)
      · rw [rf_ct_f (fun ⟨l', y1, y2, y3⟩ => hm ⟨l', y1, y2⟩)] at g
        cases hmp : m p with
        | none => rw [rf_c_n (by omega) hmp]; exact br_t (rf_zle rf_z1 (by omega)) (nm_r (nI_1 p) g)
        | some l =>
          have hl2 := (hW.1 p l hmp).2.1
          rw [rf_c_s (by omega) hmp]
          exact br_t (nI_le (Nat.le_of_not_lt fun z => hm ⟨l, hmp, z⟩) (by omega)) (nm_r (nI_1 p) g)
  have g := key (j - (i + 1)) (i + 1) (by omega) (by omega)
  rw [rf_ct_0 _ lo] at g
  exact ⟨_, g⟩
theorem ry_covered {post : Int32 → Prop} {p i j : Nat} (hn : n ≤ 14) (hW : rf_W n m) (hip : i < p) (hp : p < 14) (hj : j < 14)
    (h1 : rf_V m i j p → post 1) (h0 : ¬ rf_V m i j p → post 0) : wpY_covered post (ls, mn, sz, ba, bl, te, tr, rf_c (-1) t m, be) (nI p) (nI i) (nI j) := by
  unfold wpY_covered
  refine nm_r (nI_1 i) ?_
  have key : ∀ d k, k + d = p → i < k → (∀ r l, i < r → r < k → m r = some l → p < l → ¬ rf_I m i j r l) → wY_covered_5 post (nI p) (nI i) (nI j) ls mn sz ba bl te tr (rf_c (-1) t m) be (d + 1) (nI k) := by
    intro d
    induction d with
    | zero =>
      intro k hk hik hall
      exact br_t (nI_le (by omega) (by omega)) (h0 fun ⟨r, l, z1, z2, z3, z4, z5⟩ => hall r l z1 (by omega) z3 z4 z5)
    | succ d ih =>
      intro k hk hik hall
      have ck : (nI k).toNatClampNeg = k := nI_clamp (by omega)
      refine br_f (nI_ge (by omega) (by omega)) ⟨vp_in_nI (by omega) (by omega), ?_⟩
      rw [ck]
      have nxt : (∀ l, m k = some l → p < l → ¬ rf_I m i j k l) → wY_covered_5 post (nI p) (nI i) (nI j) ls mn sz ba bl te tr (rf_c (-1) t m) be (d + 1) (nI (k + 1)) := fun hq => ih (k + 1) (by omega) (by omega) (fun r l r1 r2 r3 r4 => by
        by_cases e : r = k
        · subst e; exact hq l r3 r4
        · exact hall r l r1 (by omega) r3 r4)
      cases hm : m k with
      | none =>
        rw [rf_c_n (by omega) hm]
        exact br_t (rf_zle rf_z1 (by omega)) (nm_r (nI_1 k) (nxt fun l z => by rw [hm] at z; cases z))
      | some l =>
        have hl := (hW.1 k l hm).2.1
        rw [rf_c_s (by omega) hm]
        refine pk_le l p (fun d1 => nm_r (nI_1 k) (nxt fun l' z z2 => by rw [hm] at z; cases z; omega)) (fun d1 => ⟨vp_in_nI (by omega) (by omega), ?_⟩)
        refine ry_inside hn hW (by omega) (by omega) (by omega) (by omega) (fun z => ?_) (fun z => ?_)
        · exact br_f (by decide) (h1 ⟨k, l, hik, by omega, hm, d1, z⟩)
        · exact br_t rfl (nm_r (nI_1 k) (nxt fun l' y y2 => by rw [hm] at y; cases y; exact z))
  exact ⟨_, key (p - (i + 1)) (i + 1) (by omega) (by omega) (fun r l r1 r2 => by omega)⟩
theorem ry_unp {post : Int32 → Prop} {i j : Nat} (hn : n ≤ 14) (hW : rf_W n m) (hij : i < j) (hj : j < 14) (h : post (nI (rf_ct (rf_U m i j) j))) : wpY_unpairedInLoop post (ls, mn, sz, ba, bl, te, tr, rf_c (-1) t m, be) (nI i) (nI j) := by
  unfold wpY_unpairedInLoop
  refine nm_r (nI_1 i) ?_
  have lu : ∀ k, k < i + 1 → ¬ rf_U m i j k := fun k hk z => by have := z.1; omega
  have key : ∀ d p, p + d = j → i < p → wY_unpairedInLoop_7 post (nI i) (nI j) ls mn sz ba bl te tr (rf_c (-1) t m) be (d + 1) (nI (rf_ct (rf_U m i j) p)) (nI p) := by
    intro d
    induction d with
    | zero =>
      intro p hp hip
      have e : p = j := by omega
      subst e
      exact br_t (nI_le (Nat.le_refl _) (by omega)) h
    | succ d ih =>
      intro p hp hip
      have cp : (nI p).toNatClampNeg = p := nI_clamp (by omega)
      have g := ih (p + 1) (by omega) (by omega)
      refine br_f (nI_ge (by omega) (by omega)) ⟨vp_in_nI (by omega) (by omega), ?_⟩
      rw [cp]
      cases hm : m p with
      | some l =>
        have hl2 := (hW.1 p l hm).2.1
        rw [rf_ct_f (fun z => by have := z.2.1; rw [hm] at this; cases this)] at g
        rw [rf_c_s (by omega) hm]
        exact br_t (nI_pos' (by omega)) (nm_r (nI_1 p) g)
      | none =>
        rw [rf_c_n (by omega) hm]
        refine br_f (by decide) (ry_covered hn hW hip (by omega) hj (fun z => ?_) (fun z => ?_))
        · rw [rf_ct_f (fun y => y.2.2 z)] at g
          exact br_f (by decide) (nm_r (nI_1 p) g)
        · rw [rf_ct_t (show rf_U m i j p from ⟨hip, hm, z⟩)] at g
          exact br_t rfl (nm_r (nI_1 _) (nm_r (nI_1 p) g))
  have g := key (j - (i + 1)) (i + 1) (by omega) (by omega)
  rw [rf_ct_0 _ lu] at g
  exact ⟨_, g⟩
theorem ry_loop {post : Int32 → Prop} {i j : Nat} (hn : n ≤ 14) (hW : rf_W n m) (hij : m i = some j) (hlt : i < j) (h : post (rf_LE ba te m i j)) : wpY_loopEnergy post (ls, mn, sz, ba, bl, te, tr, rf_c (-1) t m, be) (nI i) (nI j) := by
  obtain ⟨hi, hj, -, -⟩ := hW.1 i j hij
  have hc := rf_ct_le (rf_C m i j) j
  have lo : ∀ k, k < i + 1 → ¬ rf_C m i j k := fun k hk ⟨l, z1, z2, z3⟩ => by have := z3.1; omega
  unfold wpY_loopEnergy
  refine ry_pairs hn hW hlt (by omega) (ry_unp hn hW hlt (by omega) ?_)
  unfold rf_LE at h
  refine pk_eq (rf_ct (rf_C m i j) j) 0 (fun c => ?_) (fun c => ?_)
  · rw [if_pos c] at h
    exact ry_end (by omega) (by omega) h
  · rw [if_neg c] at h
    refine nm_r (nI_1 i) ?_
    have key : ∀ d p, p + d = j → i < p → wY_loopEnergy_56 post (nI i) (nI j) (nI (rf_ct (rf_C m i j) j)) (nI (rf_ct (rf_U m i j) j)) ls mn sz ba bl te tr (rf_c (-1) t m) be (d + 1)
        (rf_sm (rf_C m i j) (fun k => rf_en ba te k (rf_mt m k)) p) (nI (rf_la (rf_C m i j) i p)) (nI p) := by
      intro d
      induction d with
      | zero =>
        intro p hp hip
        have e : p = j := by omega
        subst e
        obtain ⟨o1, o2, o3⟩ := rf_one (P := rf_C m i p) (f := fun k => rf_en ba te k (rf_mt m k)) (i := i) p
        refine br_t (nI_le (Nat.le_refl _) (by omega)) ?_
        refine pk_eq (rf_ct (rf_C m i p) p) 1 (fun c1 => ?_) (fun c1 => ?_)
        · rw [if_pos c1] at h
          obtain ⟨⟨l, l1, l2, l3⟩, q2⟩ := o2 (by omega)
          have hl := hW.1 _ _ l1
          have ck : (nI (rf_la (rf_C m i p) i p)).toNatClampNeg = rf_la (rf_C m i p) i p := nI_clamp (by omega)
          rw [rf_mt_s l1] at h
          rw [ck, rf_c_s (by omega) l1]
          exact ⟨vp_in_nI (by omega) (by omega), ry_one l3.1 (by omega) l3.2.1 (by omega) h⟩
        · rw [if_neg c1] at h
          refine ry_end (by omega) (by omega) ?_
          rw [nI_1]; exact h
      | succ d ih =>
        intro p hp hip
        have cp : (nI p).toNatClampNeg = p := nI_clamp (by omega)
        have g := ih (p + 1) (by omega) (by omega)
        refine br_f (nI_ge (by omega) (by omega)) ⟨vp_in_nI (by omega) (by omega), ?_⟩
        rw [cp]
        by_cases hm : ∃ l, m p = some l ∧ p < l
        · obtain ⟨l, hm, hl⟩ := hm
          have hl2 := (hW.1 p l hm).2.1
          rw [rf_c_s (by omega) hm]
          refine br_f (nI_ge hl (by omega)) ⟨vp_in_nI (by omega) (by omega), ry_inside hn hW (by omega) (by omega) (by omega) (by omega) (fun z => ?_) (fun z => ?_)⟩
          · have hC : rf_C m i j p := ⟨l, hm, hl, z⟩
            rw [rf_sm_t hC, rf_la_t hC, rf_mt_s hm] at g
            exact br_f (by decide) ⟨vp_in_nI (by omega) (by omega), ry_end (by omega) (by omega) (nm_e (nm_r (nI_1 p) g))⟩
          · have hC : ¬ rf_C m i j p := fun ⟨l', y1, y2, y3⟩ => z (by rw [hm] at y1; cases y1; exact y3)
            rw [rf_sm_f hC, rf_la_f hC] at g
            exact br_t rfl (nm_r (nI_1 p) g)
        · have hC : ¬ rf_C m i j p := fun ⟨l', y1, y2, y3⟩ => hm ⟨l', y1, y2⟩
          rw [rf_sm_f hC, rf_la_f hC] at g
          cases hmp : m p with
          | none => rw [rf_c_n (by omega) hmp]; exact br_t (rf_zle rf_z1 (by omega)) (nm_r (nI_1 p) g)
          | some l =>
            have hl2 := (hW.1 p l hmp).2.1
            rw [rf_c_s (by omega) hmp]
            exact br_t (nI_le (Nat.le_of_not_lt fun z => hm ⟨l, hmp, z⟩) (by omega)) (nm_r (nI_1 p) g)
    have g := key (j - (i + 1)) (i + 1) (by omega) (by omega)
    rw [rf_sm_0 _ lo, rf_la_0 _ lo] at g
    exact ⟨_, g⟩
theorem ry_outer {post : Int32 → Prop} {i j : Nat} (hn : n ≤ 14) (hW : rf_W n m) (hi : i < 14) (hj : j < 14)
    (h1 : rf_O m i j → post 1) (h0 : ¬ rf_O m i j → post 0) : wpY_outer post (ls, mn, sz, ba, bl, te, tr, rf_c (-1) t m, be) (nI i) (nI j) := by
  unfold wpY_outer
  have key : ∀ d p, p + d = i → (∀ r q, r < p → m r = some q → ¬ j < q) → wY_outer_2 post (nI i) (nI j) ls mn sz ba bl te tr (rf_c (-1) t m) be (d + 1) (nI p) := by
    intro d
    induction d with
    | zero =>
      intro p hp hall
      exact br_t (nI_le (by omega) (by omega)) (h1 fun r q r1 => hall r q (by omega))
    | succ d ih =>
      intro p hp hall
      have cp : (nI p).toNatClampNeg = p := nI_clamp (by omega)
      refine br_f (nI_ge (by omega) (by omega)) ⟨vp_in_nI (by omega) (by omega), ?_⟩
      rw [cp]
      have nxt : (∀ q, m p = some q → ¬ j < q) → wY_outer_2 post (nI i) (nI j) ls mn sz ba bl te tr (rf_c (-1) t m) be (d + 1) (nI (p + 1)) := fun hq => ih (p + 1) (by omega) (fun r q r1 r2 => by
        by_cases e : r = p
        · subst e; exact hq q r2
        · exact hall r q (by omega) r2)
      cases hm : m p with
      | none =>
        rw [rf_c_n (by omega) hm]
        exact br_t (rf_zle rf_z1 (by omega)) (nm_r (nI_1 p) (nxt fun q z => by rw [hm] at z; cases z))
      | some q =>
        have hq := (hW.1 p q hm).2.1
        rw [rf_c_s (by omega) hm]
        exact pk_le q j (fun d1 => nm_r (nI_1 p) (nxt fun q' z => by rw [hm] at z; cases z; omega)) (fun d1 => h0 fun z => z p q (by omega) hm d1)
  exact ⟨_, key i 0 (by omega) (fun r q r1 => by omega)⟩
theorem ry_energy {post : Int32 → Prop} (hn : n ≤ 14) (hW : rf_W n m) (h : post (rf_EN ba te m n)) : wpY_energy post (ls, mn, nI n, ba, bl, te, tr, rf_c (-1) t m, be) := by
  unfold wpY_energy
  have key : ∀ d i, i + d = n → wY_energy_4 post ls mn (nI n) ba bl te tr (rf_c (-1) t m) be (d + 1) (rf_EN ba te m i) (nI i) := by
    intro d
    induction d with
    | zero =>
      intro i hi
      have e : i = n := by omega
      subst e
      exact br_t (nI_le (Nat.le_refl _) (by omega)) h
    | succ d ih =>
      intro i hi
      have ci : (nI i).toNatClampNeg = i := nI_clamp (by omega)
      have g := ih (i + 1) (by omega)
      refine br_f (nI_ge (by omega) (by omega)) ⟨vp_in_nI (by omega) (by omega), ?_⟩
      rw [ci]
      cases hm : m i with
      | none =>
        rw [rf_EN_n hm] at g
        exact nm_r (rf_c_n (by omega) hm) (br_t (rf_zle rf_z1 (by omega)) (nm_r (nI_1 i) g))
      | some j =>
        have hj2 := (hW.1 i j hm).2.1
        refine nm_r (rf_c_s (by omega) hm) (pk_le j i (fun c => ?_) (fun c => ?_))
        · rw [rf_EN_d hm (by omega)] at g
          exact nm_r (nI_1 i) g
        · refine ry_loop hn hW hm c (nm_e (ry_outer hn hW (by omega) (by omega) (fun o => ?_) (fun o => ?_)))
          · rw [rf_EN_o hm c o] at g
            exact br_f (by decide) (ry_end (by omega) (by omega) (nm_e (nm_r (nI_1 i) g)))
          · rw [rf_EN_i hm c o] at g
            exact br_t rfl (nm_r (nI_1 i) g)
  exact ⟨_, key n 0 (by omega)⟩
end
