/-! X: methods with an array parameter, a print for walk and one for trial (written by wip/whole/gen07.py) -/
section
variable {mn sz ls tl : Int32} {ba bl te tr be t : Nat → Int32} {n mm : Nat} {m : rf_M}
theorem rx_sep_walk {post : SX → Prop} {p : Nat} (hp : p < 14) (hb : ∀ q, m p = some q → q < 14)
    (h0 : m p = none → post (mn, sz, ls, tl, ba, bl, te, tr, rf_c (-3) t m, be)) (h1 : ∀ q, m p = some q → post (mn, sz, ls, tl, ba, bl, te, tr, rf_c (-3) t (rf_sep m p q), be)) : wpX_separate__walk post (mn, sz, ls, tl, ba, bl, te, tr, rf_c (-3) t m, be) (nI p) := by
  have cp : (nI p).toNatClampNeg = p := nI_clamp (by omega)
  have vp : vp_in (nI p) 14 := vp_in_nI hp (by omega)
  unfold wpX_separate__walk
  rw [cp]
  cases hm : m p with
  | none =>
    refine ⟨vp, nm_r (rf_c_n hp hm) (br_t (rf_z0 rf_z3) (h0 hm))⟩
  | some q =>
    have hq := hb q hm
    have cq : (nI q).toNatClampNeg = q := nI_clamp (by omega)
    refine ⟨vp, nm_r (rf_c_s hp hm) (br_f (nI_pos (by omega)) ⟨vp, nm_e ⟨vp_in_nI hq (by omega), nm_r (by rw [cq, rf_c_p hp hq]) (h1 q hm)⟩⟩)⟩
theorem rx_join_walk {post : SX → Prop} {p q : Nat} (hp : p < 14) (hq : q < 14) (h : post (mn, sz, ls, tl, ba, bl, te, tr, rf_c (-3) t (rf_join m p q), be)) : wpX_join__walk post (mn, sz, ls, tl, ba, bl, te, tr, rf_c (-3) t m, be) (nI p) (nI q) := by
  have cp : (nI p).toNatClampNeg = p := nI_clamp (by omega)
  have cq : (nI q).toNatClampNeg = q := nI_clamp (by omega)
  unfold wpX_join__walk
  rw [cp, cq]
  exact ⟨vp_in_nI hp (by omega), nm_e ⟨vp_in_nI hq (by omega), nm_r (rf_c_j hp hq) h⟩⟩
theorem rx_clear_walk {post : SX → Prop} {w : Nat → Int32} (h : post (mn, sz, ls, tl, ba, bl, te, tr, rf_c (-3) w rf_0, be)) : wpX_clear__walk post (mn, sz, ls, tl, ba, bl, te, tr, w, be) := by
  unfold wpX_clear__walk
  have key : ∀ d i, i + d = 14 → wX_clear__walk_2 post mn sz ls tl (d + 1) (nI i) ba bl te tr (rf_ini (-3) w i) be := by
    intro d
    induction d with
    | zero =>
      intro i hi
      have e : i = 14 := by omega
      subst e
      refine br_t (by decide) ?_
      rw [rf_ini_e]; exact h
    | succ d ih =>
      intro i hi
      have ci : (nI i).toNatClampNeg = i := nI_clamp (by omega)
      have vi : vp_in (nI i) 14 := vp_in_nI (by omega) (by omega)
      refine br_f (nI_ge (b := 14) (by omega) (by decide)) ⟨vi, nm_r (by rw [ci, rf_ini_s]) (nm_r (nI_1 i) (ih (i + 1) (by omega)))⟩
  refine ⟨15, ?_⟩
  have g := key 14 0 rfl
  rw [rf_ini_0] at g
  exact g
theorem rx_fits_walk {post : Int32 → Prop} {i j : Nat} (hij : i < j) (hj : j < 14) (hb : ∀ p q, m p = some q → q < 14)
    (h1 : rf_F m i j → post 1) (h0 : ¬ rf_F m i j → post 0) : wpX_fits__walk post (mn, sz, ls, tl, ba, bl, te, tr, rf_c (-3) t m, be) (nI i) (nI j) := by
  have ci : (nI i).toNatClampNeg = i := nI_clamp (by omega)
  have cj : (nI j).toNatClampNeg = j := nI_clamp (by omega)
  unfold wpX_fits__walk
  rw [ci, cj]
  cases hmi : m i with
  | some q => exact ⟨vp_in_nI (by omega) (by omega), br_f (by rw [rf_c_s (by omega) hmi]; exact rf_zne rf_z3 (by have := hb i q hmi; omega)) (h0 fun z => by rw [z.1] at hmi; cases hmi)⟩
  | none =>
    refine ⟨vp_in_nI (by omega) (by omega), br_t (rf_c_n (by omega) hmi) ⟨vp_in_nI (by omega) (by omega), ?_⟩⟩
    cases hmj : m j with
    | some q => exact br_f (by rw [rf_c_s (by omega) hmj]; exact rf_zne rf_z3 (by have := hb j q hmj; omega)) (h0 fun z => by rw [z.2.1] at hmj; cases hmj)
    | none =>
      refine br_t (rf_c_n (by omega) hmj) (nm_r (nI_1 i) ?_)
      have key : ∀ d p, p + d = j → i < p → (∀ r q, i < r → r < p → m r = some q → i ≤ q ∧ q ≤ j) → wX_fits__walk_23 post (nI i) (nI j) mn sz ls tl ba bl te tr (rf_c (-3) t m) be (d + 1) (nI p) := by
        intro d
        induction d with
        | zero =>
          intro p hp hi hall
          refine br_t (nI_le (by omega) (by omega)) (h1 ⟨hmi, hmj, fun r q r1 r2 r3 => hall r q r1 (by omega) r3⟩)
        | succ d ih =>
          intro p hp hi hall
          have cp : (nI p).toNatClampNeg = p := nI_clamp (by omega)
          refine br_f (nI_ge (by omega) (by omega)) ⟨vp_in_nI (by omega) (by omega), ?_⟩
          rw [cp]
          have nxt : (∀ q, m p = some q → i ≤ q ∧ q ≤ j) → ∀ r q, i < r → r < p + 1 → m r = some q → i ≤ q ∧ q ≤ j := by
            intro hq r q r1 r2 r3
            by_cases e : r = p
            · rw [e] at r3; exact hq q r3
            · exact hall r q r1 (by omega) r3
          cases hm : m p with
          | none =>
            refine nm_r (rf_c_n (by omega) hm) (br_t rfl (nm_r (nI_1 p) (ih (p + 1) (by omega) (by omega) (nxt fun q z => by rw [hm] at z; cases z))))
          | some q =>
            have hq := hb p q hm
            refine nm_r (rf_c_s (by omega) hm) (br_f (rf_zne rf_z3 (by omega)) ?_)
            refine pk_lt q i (fun c => h0 fun z => by have := z.2.2 p q hi (by omega) hm; omega) (fun c => ?_)
            refine pk_le q j (fun c2 => ?_) (fun c2 => h0 fun z => by have := z.2.2 p q hi (by omega) hm; omega)
            exact nm_r (nI_1 p) (ih (p + 1) (by omega) (by omega) (nxt fun q' z => by rw [hm] at z; cases z; exact ⟨c, c2⟩))
      exact ⟨_, key (j - (i + 1)) (i + 1) (by omega) (by omega) (fun r q r1 r2 => by omega)⟩
theorem rx_loop_walk {post : Int32 → Prop} {i j : Nat} (hn : n ≤ 14) (hW : rf_W n m) (hij : m i = some j) (hlt : i < j) (h : post (rf_LE ba te m i j)) : wpX_loopEnergy__walk post (mn, sz, ls, tl, ba, bl, te, tr, rf_c (-3) t m, be) (nI i) (nI j) := by
  obtain ⟨hi, hj, -, -⟩ := hW.1 i j hij
  unfold wpX_loopEnergy__walk
  refine rx_end (by omega) (by omega) (nm_r (nI_1 i) (nm_r (nI_1 i) ?_))
  have lo : ∀ k, k < i + 1 → ¬ rf_C m i j k := fun k hk ⟨l, z1, z2, z3⟩ => by have := z3.1; omega
  have lu : ∀ k, k < i + 1 → ¬ rf_U m i j k := fun k hk z => by have := z.1; omega
  have key : ∀ d p pa, p + d = j → i < p → pa ≤ 14 → rf_PA m i j p pa → wX_loopEnergy__walk_27 post (nI i) (nI j) mn sz ls tl ba bl te tr (rf_c (-3) t m) be (d + 1)
      (nI (rf_ct (rf_C m i j) p)) (nI (rf_ct (rf_U m i j) p)) (rf_en ba te i j + rf_sm (rf_C m i j) (fun k => rf_en ba te k (rf_mt m k)) p) (nI (rf_la (rf_C m i j) i p)) (nI pa) (nI p) := by
    intro d
    induction d with
    | zero =>
      intro p pa hp hip hpa hPA
      have e : p = j := by omega
      subst e
      have hc := rf_ct_le (rf_C m i p) p
      obtain ⟨o1, o2, o3⟩ := rf_one (P := rf_C m i p) (f := fun k => rf_en ba te k (rf_mt m k)) (i := i) p
      refine br_t (nI_le (Nat.le_refl _) (by omega)) ?_
      unfold rf_LE at h
      refine pk_eq (rf_ct (rf_C m i p) p) 0 (fun c => ?_) (fun c => ?_)
      · rw [if_pos c] at h
        rw [(o1 c).1, Int32.add_zero]; exact h
      · rw [if_neg c] at h
        refine pk_eq (rf_ct (rf_C m i p) p) 1 (fun c1 => ?_) (fun c1 => ?_)
        · rw [if_pos c1] at h
          obtain ⟨⟨l, l1, l2, l3⟩, q2⟩ := o2 (by omega)
          have hl := hW.1 _ _ l1
          have ck : (nI (rf_la (rf_C m i p) i p)).toNatClampNeg = rf_la (rf_C m i p) i p := nI_clamp (by omega)
          rw [o3 c1, ck, rf_c_s (by omega) l1]
          rw [rf_mt_s l1] at h
          show vp_in _ 14 ∧ wpX_innerLoopEnergy (fun r => post r) (mn, sz, ls, tl, ba, bl, te, tr, rf_c (-3) t m, be) (nI i) (nI p) (nI (rf_la (rf_C m i p) i p)) (nI l) (rf_en ba te i p + rf_en ba te (rf_la (rf_C m i p) i p) (rf_mt m (rf_la (rf_C m i p) i p)))
          rw [rf_mt_s l1]
          exact ⟨vp_in_nI (by omega) (by omega), rx_inner l3.1 (by omega) l3.2.1 (by omega) h⟩
        · rw [if_neg c1] at h
          rw [nI_1, ← Int32.add_assoc]; exact h
    | succ d ih =>
      intro p pa hp hip hpa hPA
      have cp : (nI p).toNatClampNeg = p := nI_clamp (by omega)
      refine br_f (nI_ge (by omega) (by omega)) ?_
      rw [cp]
      refine pk_lt p pa (fun c => ?_) (fun c => ?_)
      · obtain ⟨k1, k2, k3⟩ := rf_PA_3 hW hij hip (by omega) hPA c
        have g := ih (p + 1) pa (by omega) (by omega) hpa k3
        rw [rf_ct_f k1, rf_ct_f k2, rf_sm_f k1, rf_la_f k1] at g
        exact nm_r (nI_1 p) g
      · refine ⟨vp_in_nI (by omega) (by omega), ?_⟩
        by_cases hm : ∃ l, m p = some l ∧ p < l
        · obtain ⟨l, hm, hl⟩ := hm
          have hl2 := (hW.1 p l hm).2.1
          obtain ⟨k1, k2, k3⟩ := rf_PA_1 hW hij hip (by omega) hPA c hm hl
          have g := ih (p + 1) (l + 1) (by omega) (by omega) (by omega) k3
          rw [rf_ct_t k1, rf_ct_f k2, rf_sm_t k1, rf_la_t k1, ← Int32.add_assoc] at g
          rw [rf_c_s (by omega) hm]
          refine br_f (nI_ge hl (by omega)) (nm_r (nI_1 _) ⟨vp_in_nI (by omega) (by omega), rx_end (by omega) (by omega) (nm_e ⟨vp_in_nI (by omega) (by omega), nm_r (nI_1 l) (nm_r (nI_1 p) ?_)⟩)⟩)
          rw [rf_mt_s hm] at g
          exact g
        · have hm' : ∀ l, m p = some l → ¬ p < l := fun l z1 z2 => hm ⟨l, z1, z2⟩
          obtain ⟨k1, k2, k3⟩ := rf_PA_2 hW hij hip (by omega) hPA c hm'
          have g := ih (p + 1) pa (by omega) (by omega) hpa k3
          rw [rf_ct_f k1, rf_ct_t k2, rf_sm_f k1, rf_la_f k1] at g
          rw [rf_c_n (by omega) k2.2.1]
          exact br_t (rf_zle rf_z3 (by omega)) (nm_r (nI_1 _) (nm_r (nI_1 p) g))
  have g := key (j - (i + 1)) (i + 1) (i + 1) (by omega) (by omega) (by omega) rf_PA_0
  rw [rf_ct_0 _ lo, rf_ct_0 _ lu, rf_sm_0 _ lo, rf_la_0 _ lo, Int32.add_zero] at g
  exact ⟨_, g⟩
theorem rx_energy_walk {post : Int32 → Prop} (hn : n ≤ 14) (hW : rf_W n m) (h : post (rf_EN ba te m n)) : wpX_energyOf__walk post (mn, nI n, ls, tl, ba, bl, te, tr, rf_c (-3) t m, be) := by
  unfold wpX_energyOf__walk
  have key : ∀ d i o, i + d = n → o ≤ 14 → rf_PO m i o → wX_energyOf__walk_7 post mn (nI n) ls tl ba bl te tr (rf_c (-3) t m) be (d + 1) (rf_EN ba te m i) (nI o) (nI i) := by
    intro d
    induction d with
    | zero =>
      intro i o hi ho hPO
      have e : i = n := by omega
      subst e
      exact br_t (nI_le (Nat.le_refl _) (by omega)) h
    | succ d ih =>
      intro i o hi ho hPO
      have ci : (nI i).toNatClampNeg = i := nI_clamp (by omega)
      refine br_f (nI_ge (by omega) (by omega)) ⟨vp_in_nI (by omega) (by omega), ?_⟩
      rw [ci]
      by_cases hm : ∃ j, m i = some j ∧ i < j
      · obtain ⟨j, hm, hj⟩ := hm
        have hj2 := (hW.1 i j hm).2.1
        refine nm_r (rf_c_s (by omega) hm) (br_f (nI_ge hj (by omega)) (rx_loop_walk hn hW hm hj (nm_e ?_)))
        refine pk_lt i o (fun c => ?_) (fun c => ?_)
        · obtain ⟨k1, k2⟩ := rf_PO_2 hW hPO c hm hj
          have g := ih (i + 1) o (by omega) ho k2
          rw [rf_EN_i hm hj k1] at g
          exact nm_r (nI_1 i) g
        · obtain ⟨k1, k2⟩ := rf_PO_1 hPO c hm hj
          have g := ih (i + 1) (j + 1) (by omega) (by omega) k2
          rw [rf_EN_o hm hj k1] at g
          exact rx_end (by omega) (by omega) (nm_e (nm_r (nI_1 j) (nm_r (nI_1 i) g)))
      · have hm' : ∀ l, m i = some l → ¬ i < l := fun l z1 z2 => hm ⟨l, z1, z2⟩
        have g := ih (i + 1) o (by omega) ho (rf_PO_3 hW hPO hm')
        cases hmi : m i with
        | none =>
          rw [rf_EN_n hmi] at g
          exact nm_r (rf_c_n (by omega) hmi) (br_t (rf_zle rf_z3 (by omega)) (nm_r (nI_1 i) g))
        | some j =>
          have hj2 := (hW.1 i j hmi).2.1
          rw [rf_EN_d hmi (hm' j hmi)] at g
          exact nm_r (rf_c_s (by omega) hmi) (br_t (nI_le (by have := hm' j hmi; omega) (by omega)) (nm_r (nI_1 i) g))
  exact ⟨_, key n 0 0 (by omega) (by omega) rf_PO_0⟩
end
section
variable {mn sz ls tl : Int32} {ba bl te wa be t : Nat → Int32} {n mm : Nat} {m : rf_M}
theorem rx_sep_trial {post : SX → Prop} {p : Nat} (hp : p < 14) (hb : ∀ q, m p = some q → q < 14)
    (h0 : m p = none → post (mn, sz, ls, tl, ba, bl, te, rf_c (-3) t m, wa, be)) (h1 : ∀ q, m p = some q → post (mn, sz, ls, tl, ba, bl, te, rf_c (-3) t (rf_sep m p q), wa, be)) : wpX_separate__trial post (mn, sz, ls, tl, ba, bl, te, rf_c (-3) t m, wa, be) (nI p) := by
  have cp : (nI p).toNatClampNeg = p := nI_clamp (by omega)
  have vp : vp_in (nI p) 14 := vp_in_nI hp (by omega)
  unfold wpX_separate__trial
  rw [cp]
  cases hm : m p with
  | none =>
    refine ⟨vp, nm_r (rf_c_n hp hm) (br_t (rf_z0 rf_z3) (h0 hm))⟩
  | some q =>
    have hq := hb q hm
    have cq : (nI q).toNatClampNeg = q := nI_clamp (by omega)
    refine ⟨vp, nm_r (rf_c_s hp hm) (br_f (nI_pos (by omega)) ⟨vp, nm_e ⟨vp_in_nI hq (by omega), nm_r (by rw [cq, rf_c_p hp hq]) (h1 q hm)⟩⟩)⟩
theorem rx_join_trial {post : SX → Prop} {p q : Nat} (hp : p < 14) (hq : q < 14) (h : post (mn, sz, ls, tl, ba, bl, te, rf_c (-3) t (rf_join m p q), wa, be)) : wpX_join__trial post (mn, sz, ls, tl, ba, bl, te, rf_c (-3) t m, wa, be) (nI p) (nI q) := by
  have cp : (nI p).toNatClampNeg = p := nI_clamp (by omega)
  have cq : (nI q).toNatClampNeg = q := nI_clamp (by omega)
  unfold wpX_join__trial
  rw [cp, cq]
  exact ⟨vp_in_nI hp (by omega), nm_e ⟨vp_in_nI hq (by omega), nm_r (rf_c_j hp hq) h⟩⟩
theorem rx_clear_trial {post : SX → Prop} {w : Nat → Int32} (h : post (mn, sz, ls, tl, ba, bl, te, rf_c (-3) w rf_0, wa, be)) : wpX_clear__trial post (mn, sz, ls, tl, ba, bl, te, w, wa, be) := by
  unfold wpX_clear__trial
  have key : ∀ d i, i + d = 14 → wX_clear__trial_2 post mn sz ls tl (d + 1) (nI i) ba bl te (rf_ini (-3) w i) wa be := by
    intro d
    induction d with
    | zero =>
      intro i hi
      have e : i = 14 := by omega
      subst e
      refine br_t (by decide) ?_
      rw [rf_ini_e]; exact h
    | succ d ih =>
      intro i hi
      have ci : (nI i).toNatClampNeg = i := nI_clamp (by omega)
      have vi : vp_in (nI i) 14 := vp_in_nI (by omega) (by omega)
      refine br_f (nI_ge (b := 14) (by omega) (by decide)) ⟨vi, nm_r (by rw [ci, rf_ini_s]) (nm_r (nI_1 i) (ih (i + 1) (by omega)))⟩
  refine ⟨15, ?_⟩
  have g := key 14 0 rfl
  rw [rf_ini_0] at g
  exact g
theorem rx_fits_trial {post : Int32 → Prop} {i j : Nat} (hij : i < j) (hj : j < 14) (hb : ∀ p q, m p = some q → q < 14)
    (h1 : rf_F m i j → post 1) (h0 : ¬ rf_F m i j → post 0) : wpX_fits__trial post (mn, sz, ls, tl, ba, bl, te, rf_c (-3) t m, wa, be) (nI i) (nI j) := by
  have ci : (nI i).toNatClampNeg = i := nI_clamp (by omega)
  have cj : (nI j).toNatClampNeg = j := nI_clamp (by omega)
  unfold wpX_fits__trial
  rw [ci, cj]
  cases hmi : m i with
  | some q => exact ⟨vp_in_nI (by omega) (by omega), br_f (by rw [rf_c_s (by omega) hmi]; exact rf_zne rf_z3 (by have := hb i q hmi; omega)) (h0 fun z => by rw [z.1] at hmi; cases hmi)⟩
  | none =>
    refine ⟨vp_in_nI (by omega) (by omega), br_t (rf_c_n (by omega) hmi) ⟨vp_in_nI (by omega) (by omega), ?_⟩⟩
    cases hmj : m j with
    | some q => exact br_f (by rw [rf_c_s (by omega) hmj]; exact rf_zne rf_z3 (by have := hb j q hmj; omega)) (h0 fun z => by rw [z.2.1] at hmj; cases hmj)
    | none =>
      refine br_t (rf_c_n (by omega) hmj) (nm_r (nI_1 i) ?_)
      have key : ∀ d p, p + d = j → i < p → (∀ r q, i < r → r < p → m r = some q → i ≤ q ∧ q ≤ j) → wX_fits__trial_23 post (nI i) (nI j) mn sz ls tl ba bl te (rf_c (-3) t m) wa be (d + 1) (nI p) := by
        intro d
        induction d with
        | zero =>
          intro p hp hi hall
          refine br_t (nI_le (by omega) (by omega)) (h1 ⟨hmi, hmj, fun r q r1 r2 r3 => hall r q r1 (by omega) r3⟩)
        | succ d ih =>
          intro p hp hi hall
          have cp : (nI p).toNatClampNeg = p := nI_clamp (by omega)
          refine br_f (nI_ge (by omega) (by omega)) ⟨vp_in_nI (by omega) (by omega), ?_⟩
          rw [cp]
          have nxt : (∀ q, m p = some q → i ≤ q ∧ q ≤ j) → ∀ r q, i < r → r < p + 1 → m r = some q → i ≤ q ∧ q ≤ j := by
            intro hq r q r1 r2 r3
            by_cases e : r = p
            · rw [e] at r3; exact hq q r3
            · exact hall r q r1 (by omega) r3
          cases hm : m p with
          | none =>
            refine nm_r (rf_c_n (by omega) hm) (br_t rfl (nm_r (nI_1 p) (ih (p + 1) (by omega) (by omega) (nxt fun q z => by rw [hm] at z; cases z))))
          | some q =>
            have hq := hb p q hm
            refine nm_r (rf_c_s (by omega) hm) (br_f (rf_zne rf_z3 (by omega)) ?_)
            refine pk_lt q i (fun c => h0 fun z => by have := z.2.2 p q hi (by omega) hm; omega) (fun c => ?_)
            refine pk_le q j (fun c2 => ?_) (fun c2 => h0 fun z => by have := z.2.2 p q hi (by omega) hm; omega)
            exact nm_r (nI_1 p) (ih (p + 1) (by omega) (by omega) (nxt fun q' z => by rw [hm] at z; cases z; exact ⟨c, c2⟩))
      exact ⟨_, key (j - (i + 1)) (i + 1) (by omega) (by omega) (fun r q r1 r2 => by omega)⟩
theorem rx_loop_trial {post : Int32 → Prop} {i j : Nat} (hn : n ≤ 14) (hW : rf_W n m) (hij : m i = some j) (hlt : i < j) (h : post (rf_LE ba te m i j)) : wpX_loopEnergy__trial post (mn, sz, ls, tl, ba, bl, te, rf_c (-3) t m, wa, be) (nI i) (nI j) := by
  obtain ⟨hi, hj, -, -⟩ := hW.1 i j hij
  unfold wpX_loopEnergy__trial
  refine rx_end (by omega) (by omega) (nm_r (nI_1 i) (nm_r (nI_1 i) ?_))
  have lo : ∀ k, k < i + 1 → ¬ rf_C m i j k := fun k hk ⟨l, z1, z2, z3⟩ => by have := z3.1; omega
  have lu : ∀ k, k < i + 1 → ¬ rf_U m i j k := fun k hk z => by have := z.1; omega
  have key : ∀ d p pa, p + d = j → i < p → pa ≤ 14 → rf_PA m i j p pa → wX_loopEnergy__trial_27 post (nI i) (nI j) mn sz ls tl ba bl te (rf_c (-3) t m) wa be (d + 1)
      (nI (rf_ct (rf_C m i j) p)) (nI (rf_ct (rf_U m i j) p)) (rf_en ba te i j + rf_sm (rf_C m i j) (fun k => rf_en ba te k (rf_mt m k)) p) (nI (rf_la (rf_C m i j) i p)) (nI pa) (nI p) := by
    intro d
    induction d with
    | zero =>
      intro p pa hp hip hpa hPA
      have e : p = j := by omega
      subst e
      have hc := rf_ct_le (rf_C m i p) p
      obtain ⟨o1, o2, o3⟩ := rf_one (P := rf_C m i p) (f := fun k => rf_en ba te k (rf_mt m k)) (i := i) p
      refine br_t (nI_le (Nat.le_refl _) (by omega)) ?_
      unfold rf_LE at h
      refine pk_eq (rf_ct (rf_C m i p) p) 0 (fun c => ?_) (fun c => ?_)
      · rw [if_pos c] at h
        rw [(o1 c).1, Int32.add_zero]; exact h
      · rw [if_neg c] at h
        refine pk_eq (rf_ct (rf_C m i p) p) 1 (fun c1 => ?_) (fun c1 => ?_)
        · rw [if_pos c1] at h
          obtain ⟨⟨l, l1, l2, l3⟩, q2⟩ := o2 (by omega)
          have hl := hW.1 _ _ l1
          have ck : (nI (rf_la (rf_C m i p) i p)).toNatClampNeg = rf_la (rf_C m i p) i p := nI_clamp (by omega)
          rw [o3 c1, ck, rf_c_s (by omega) l1]
          rw [rf_mt_s l1] at h
          show vp_in _ 14 ∧ wpX_innerLoopEnergy (fun r => post r) (mn, sz, ls, tl, ba, bl, te, rf_c (-3) t m, wa, be) (nI i) (nI p) (nI (rf_la (rf_C m i p) i p)) (nI l) (rf_en ba te i p + rf_en ba te (rf_la (rf_C m i p) i p) (rf_mt m (rf_la (rf_C m i p) i p)))
          rw [rf_mt_s l1]
          exact ⟨vp_in_nI (by omega) (by omega), rx_inner l3.1 (by omega) l3.2.1 (by omega) h⟩
        · rw [if_neg c1] at h
          rw [nI_1, ← Int32.add_assoc]; exact h
    | succ d ih =>
      intro p pa hp hip hpa hPA
      have cp : (nI p).toNatClampNeg = p := nI_clamp (by omega)
      refine br_f (nI_ge (by omega) (by omega)) ?_
      rw [cp]
      refine pk_lt p pa (fun c => ?_) (fun c => ?_)
      · obtain ⟨k1, k2, k3⟩ := rf_PA_3 hW hij hip (by omega) hPA c
        have g := ih (p + 1) pa (by omega) (by omega) hpa k3
        rw [rf_ct_f k1, rf_ct_f k2, rf_sm_f k1, rf_la_f k1] at g
        exact nm_r (nI_1 p) g
      · refine ⟨vp_in_nI (by omega) (by omega), ?_⟩
        by_cases hm : ∃ l, m p = some l ∧ p < l
        · obtain ⟨l, hm, hl⟩ := hm
          have hl2 := (hW.1 p l hm).2.1
          obtain ⟨k1, k2, k3⟩ := rf_PA_1 hW hij hip (by omega) hPA c hm hl
          have g := ih (p + 1) (l + 1) (by omega) (by omega) (by omega) k3
          rw [rf_ct_t k1, rf_ct_f k2, rf_sm_t k1, rf_la_t k1, ← Int32.add_assoc] at g
          rw [rf_c_s (by omega) hm]
          refine br_f (nI_ge hl (by omega)) (nm_r (nI_1 _) ⟨vp_in_nI (by omega) (by omega), rx_end (by omega) (by omega) (nm_e ⟨vp_in_nI (by omega) (by omega), nm_r (nI_1 l) (nm_r (nI_1 p) ?_)⟩)⟩)
          rw [rf_mt_s hm] at g
          exact g
        · have hm' : ∀ l, m p = some l → ¬ p < l := fun l z1 z2 => hm ⟨l, z1, z2⟩
          obtain ⟨k1, k2, k3⟩ := rf_PA_2 hW hij hip (by omega) hPA c hm'
          have g := ih (p + 1) pa (by omega) (by omega) hpa k3
          rw [rf_ct_f k1, rf_ct_t k2, rf_sm_f k1, rf_la_f k1] at g
          rw [rf_c_n (by omega) k2.2.1]
          exact br_t (rf_zle rf_z3 (by omega)) (nm_r (nI_1 _) (nm_r (nI_1 p) g))
  have g := key (j - (i + 1)) (i + 1) (i + 1) (by omega) (by omega) (by omega) rf_PA_0
  rw [rf_ct_0 _ lo, rf_ct_0 _ lu, rf_sm_0 _ lo, rf_la_0 _ lo, Int32.add_zero] at g
  exact ⟨_, g⟩
theorem rx_energy_trial {post : Int32 → Prop} (hn : n ≤ 14) (hW : rf_W n m) (h : post (rf_EN ba te m n)) : wpX_energyOf__trial post (mn, nI n, ls, tl, ba, bl, te, rf_c (-3) t m, wa, be) := by
  unfold wpX_energyOf__trial
  have key : ∀ d i o, i + d = n → o ≤ 14 → rf_PO m i o → wX_energyOf__trial_7 post mn (nI n) ls tl ba bl te (rf_c (-3) t m) wa be (d + 1) (rf_EN ba te m i) (nI o) (nI i) := by
    intro d
    induction d with
    | zero =>
      intro i o hi ho hPO
      have e : i = n := by omega
      subst e
      exact br_t (nI_le (Nat.le_refl _) (by omega)) h
    | succ d ih =>
      intro i o hi ho hPO
      have ci : (nI i).toNatClampNeg = i := nI_clamp (by omega)
      refine br_f (nI_ge (by omega) (by omega)) ⟨vp_in_nI (by omega) (by omega), ?_⟩
      rw [ci]
      by_cases hm : ∃ j, m i = some j ∧ i < j
      · obtain ⟨j, hm, hj⟩ := hm
        have hj2 := (hW.1 i j hm).2.1
        refine nm_r (rf_c_s (by omega) hm) (br_f (nI_ge hj (by omega)) (rx_loop_trial hn hW hm hj (nm_e ?_)))
        refine pk_lt i o (fun c => ?_) (fun c => ?_)
        · obtain ⟨k1, k2⟩ := rf_PO_2 hW hPO c hm hj
          have g := ih (i + 1) o (by omega) ho k2
          rw [rf_EN_i hm hj k1] at g
          exact nm_r (nI_1 i) g
        · obtain ⟨k1, k2⟩ := rf_PO_1 hPO c hm hj
          have g := ih (i + 1) (j + 1) (by omega) (by omega) k2
          rw [rf_EN_o hm hj k1] at g
          exact rx_end (by omega) (by omega) (nm_e (nm_r (nI_1 j) (nm_r (nI_1 i) g)))
      · have hm' : ∀ l, m i = some l → ¬ i < l := fun l z1 z2 => hm ⟨l, z1, z2⟩
        have g := ih (i + 1) o (by omega) ho (rf_PO_3 hW hPO hm')
        cases hmi : m i with
        | none =>
          rw [rf_EN_n hmi] at g
          exact nm_r (rf_c_n (by omega) hmi) (br_t (rf_zle rf_z3 (by omega)) (nm_r (nI_1 i) g))
        | some j =>
          have hj2 := (hW.1 i j hmi).2.1
          rw [rf_EN_d hmi (hm' j hmi)] at g
          exact nm_r (rf_c_s (by omega) hmi) (br_t (nI_le (by have := hm' j hmi; omega) (by omega)) (nm_r (nI_1 i) g))
  exact ⟨_, key n 0 0 (by omega) (by omega) rf_PO_0⟩
end
