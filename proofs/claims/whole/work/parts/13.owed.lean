/-! the relation and what is owed -/
def i_Rel (k : Nat) (u : SX) (v : SY) : Prop :=
  ∃ (mm n : Nat) (ba bx bz te t t' : Nat → Int32) (m : rf_M) (lx tx ly : Int32) (wa bex ma bey : Nat → Int32),
    u = (nI mm, nI n, lx, tx, ba, bx, te, rf_c (-3) t m, wa, bex) ∧ v = (ly, nI mm, nI n, ba, bz, te, rf_c (-1) t' m, ma, bey) ∧
    n ≤ 14 ∧ 2 ≤ mm ∧ mm ≤ 4 ∧ (∀ i, i < n → bx i = bz i) ∧ rf_W n m
theorem rf_rel {k mm n : Nat} {ba bx bz te t t' : Nat → Int32} {m : rf_M} {lx tx ly : Int32} {wa bex ma bey : Nat → Int32} (hn : n ≤ 14) (h2 : 2 ≤ mm) (h4 : mm ≤ 4) (hb : ∀ i, i < n → bx i = bz i) (hW : rf_W n m) :
    i_Rel k (nI mm, nI n, lx, tx, ba, bx, te, rf_c (-3) t m, wa, bex) (ly, nI mm, nI n, ba, bz, te, rf_c (-1) t' m, ma, bey) :=
  ⟨mm, n, ba, bx, bz, te, t, t', m, lx, tx, ly, wa, bex, ma, bey, rfl, rfl, hn, h2, h4, hb, hW⟩
theorem i_up {k : Nat} {u : SX} {v : SY} (h : i_Rel k u v) : i_Rel (k + 3) u v := h
def rf_te : Nat → Int32 := upd (upd (upd (upd (upd (upd (upd (upd (upd (upd (upd (upd (upd (upd (upd (upd (upd (fun _ => 0) 0 (-33)) 1 (-22)) 2 (-15)) 3 (-11)) 4 (-9)) 5 (-5)) 6 38) 7 3) 8 28) 9 4) 10 12) 11 3) 12 5) 13 34) 14 4) 15 0) 16 5
theorem rx_init {post : SX → Prop} {x : Int32} (h : post (x, 0, 0, 0, (fun _ => 0), (fun _ => 0), rf_te, rf_c (-3) (fun _ => 0) rf_0, (fun _ => 0), (fun _ => 0))) : ∃ n85, wX_init_85 post x 0 0 0 n85 0 (fun _ => 0) (fun _ => 0) (fun _ => 0) (fun _ => 0) (fun _ => 0) (fun _ => 0) := by
  have key : ∀ d i, i + d = 14 → wX_init_85 post x 0 0 0 (d + 1) (nI i) (fun _ => 0) (fun _ => 0) (fun _ => 0) (rf_ini (-3) (fun _ => 0) i) (fun _ => 0) (fun _ => 0) := by
    intro d
    induction d with
    | zero =>
      intro i hi
      have e : i = 14 := by omega
      subst e
      refine br_t (by decide) ?_
      rw [rf_ini_e]
      exact nm_e (nm_e (nm_e (nm_e (nm_e (nm_e (nm_e (nm_e (nm_e (nm_e (nm_e (nm_e (nm_e (nm_e (nm_e (nm_e (nm_e h))))))))))))))))
    | succ d ih =>
      intro i hi
      have ci : (nI i).toNatClampNeg = i := nI_clamp (by omega)
      have vi : vp_in (nI i) 14 := vp_in_nI (by omega) (by omega)
      refine br_f (nI_ge (b := 14) (by omega) (by decide)) ⟨vi, nm_r (by rw [ci, rf_ini_s]) (nm_r (nI_1 i) (ih (i + 1) (by omega)))⟩
  refine ⟨15, ?_⟩
  have g := key 14 0 rfl
  rw [rf_ini_0] at g
  exact g
theorem ry_init {post : SY → Prop} {x : Int32} (h : post (0, x, 0, (fun _ => 0), (fun _ => 0), rf_te, rf_c (-1) (fun _ => 0) rf_0, (fun _ => 0), (fun _ => 0))) : wY_init_77 post x 0 0 0 (fun _ => 0) (fun _ => 0) (fun _ => 0) (fun _ => 0) (fun _ => 0) (fun _ => 0) := by
  refine nm_e (nm_e (nm_e (nm_e (nm_e (nm_e (nm_e (nm_e (nm_e (nm_e (nm_e (nm_e (nm_e (nm_e (nm_e (nm_e (nm_e ?_))))))))))))))))
  have key : ∀ d i, i + d = 14 → wY_init_222 post 0 x 0 (d + 1) (nI i) (fun _ => 0) (fun _ => 0) rf_te (rf_ini (-1) (fun _ => 0) i) (fun _ => 0) (fun _ => 0) := by
    intro d
    induction d with
    | zero =>
      intro i hi
      have e : i = 14 := by omega
      subst e
      refine br_t (by decide) ?_
      rw [rf_ini_e]; exact h
    | succ d ih =>
      intro i hi
      have ci : (nI i).toNatClampNeg = i := nI_clamp (by omega)
      have vi : vp_in (nI i) 14 := vp_in_nI (by omega) (by omega)
      refine br_f (nI_ge (b := 14) (by omega) (by decide)) ⟨vi, nm_r (by rw [ci, rf_ini_s]) (nm_r (nI_1 i) (ih (i + 1) (by omega)))⟩
  refine ⟨15, ?_⟩
  have g := key 14 0 rfl
  rw [rf_ini_0] at g
  exact g
theorem rf_rel0 {mm : Nat} (h2 : 2 ≤ mm) (h4 : mm ≤ 4) : i_Rel 1 (nI mm, 0, 0, 0, (fun _ => 0), (fun _ => 0), rf_te, rf_c (-3) (fun _ => 0) rf_0, (fun _ => 0), (fun _ => 0)) (0, nI mm, 0, (fun _ => 0), (fun _ => 0), rf_te, rf_c (-1) (fun _ => 0) rf_0, (fun _ => 0), (fun _ => 0)) :=
  rf_rel (n := 0) (by omega) h2 h4 (fun i hi => by omega) (rf_W0 0)
theorem i_vc0 (k0 : Int32) : wpX_init (fun u => wpY_init (fun v => i_Rel 1 u v) k0) k0 := by
  unfold wpX_init wpY_init
  refine br_c (fun c => br_c (fun d => rx_init ?_) (fun d => rx_init ?_)) (fun c => rx_init ?_)
  · have h0 : ¬ k0 < 0 := fun z => by
      rw [Int32.lt_iff_toInt_lt, show (0 : Int32).toInt = 0 from by decide] at z
      rw [Int32.le_iff_toInt_le, show (2 : Int32).toInt = 2 from by decide] at c
      omega
    obtain ⟨mm, hmm, rfl⟩ := nI_of2 (M := 4) (n := 4) (by decide) h0 d
    have h2 : 2 ≤ mm := (nI_leI (a := 2) (by omega) (by omega)).mp c
    exact br_t c (br_t d (ry_init (rf_rel0 h2 hmm)))
  · exact br_t c (br_f d (ry_init (rf_rel0 (mm := 4) (by omega) (by omega))))
  · exact br_f c (ry_init (rf_rel0 (mm := 2) (by omega) (by omega)))
theorem i_vc_addBase {k : Nat} {u : SX} {v : SY} (I : i_Rel k u v) (hk : k + 3 ≤ 1537) (v1 : Int32) : wpX_addBase (fun r u' => wpY_addBase (fun r' v' => r' = r ∧ i_Rel (k + 3) u' v') v v1) u v1 := by
  obtain ⟨mm, n, ba, bx, bz, te, t, t', m, lx, tx, ly, wa, bex, ma, bey, rfl, rfl, hn, h2, h4, hb, hW⟩ := I
  unfold wpX_addBase wpY_addBase
  have cn : (nI n).toNatClampNeg = n := nI_clamp (by omega)
  refine pk_lt n 14 (fun c => ?_) (fun c => ?_)
  · have vn : vp_in (nI n) 14 := vp_in_nI c (by omega)
    have ne : ¬ nI n = 14 := fun z => by have := (nI_eq (b := 14) (by omega) (by omega)).mp z; omega
    refine br_c (fun d => br_f ne (br_t d ⟨rfl, rf_rel hn h2 h4 hb hW⟩)) (fun d => br_c (fun e => ?_) (fun e => br_f ne (br_f d (br_f e ⟨rfl, rf_rel hn h2 h4 hb hW⟩))))
    refine ⟨vn, nm_e ⟨vn, nm_e (nm_r (nI_1 n) (br_f ne (br_f d (br_t e ⟨vn, nm_e ⟨vn, nm_e ⟨vn, nm_r (e' := rf_c (-1) t' m) (by rw [cn]; exact rf_c_u c (rf_W_n hW)) (nm_r (nI_1 n) ⟨rfl, ?_⟩)⟩⟩⟩))))⟩⟩
    refine rf_rel (by omega) h2 h4 (fun i hi => ?_) (rf_W_up hW)
    rw [cn]
    unfold upd
    by_cases f : i = n
    · rw [if_pos f, if_pos f]
    · rw [if_neg f, if_neg f]; exact hb i (by omega)
  · have e : n = 14 := by omega
    subst e
    exact br_t rfl ⟨rfl, rf_rel hn h2 h4 hb hW⟩
theorem i_vc_dropBase {k : Nat} {u : SX} {v : SY} (I : i_Rel k u v) (hk : k + 3 ≤ 1537) : wpX_dropBase (fun r u' => wpY_dropBase (fun r' v' => r' = r ∧ i_Rel (k + 3) u' v') v) u := by
  obtain ⟨mm, n, ba, bx, bz, te, t, t', m, lx, tx, ly, wa, bex, ma, bey, rfl, rfl, hn, h2, h4, hb, hW⟩ := I
  unfold wpX_dropBase wpY_dropBase
  refine pk_lt 0 n (fun c => ?_) (fun c => ?_)
  · obtain ⟨n, rfl⟩ : ∃ n', n = n' + 1 := ⟨n - 1, by omega⟩
    have cn : (nI n).toNatClampNeg = n := nI_clamp (by omega)
    have vn : vp_in (nI n) 14 := vp_in_nI (by omega) (by omega)
    refine nm_r (nI_pred n) (rx_del hn (by omega) hW ⟨vn, nm_e ⟨vn, br_f (nI_ne0 (by omega) (by omega)) ?_⟩⟩)
    rw [nI_pred n]
    refine ry_del hn (by omega) hW (nm_r (nI_pred n) ⟨vn, rfl, ?_⟩)
    refine rf_rel (by omega) h2 h4 (fun i hi => ?_) (rf_W_dn (rf_del_W hW) rf_del_p)
    rw [cn, pk_un (by omega)]
    exact hb i (by omega)
  · have e : n = 0 := by omega
    subst e
    exact br_t rfl ⟨rfl, rf_rel hn h2 h4 hb hW⟩
theorem i_vc_length {k : Nat} {u : SX} {v : SY} (I : i_Rel k u v) (hk : k + 3 ≤ 1537) : wpX_length (fun r => wpY_length (fun r' => r' = r ∧ i_Rel (k + 3) u v) v) u := by
  obtain ⟨mm, n, ba, bx, bz, te, t, t', m, lx, tx, ly, wa, bex, ma, bey, rfl, rfl, hn, h2, h4, hb, hW⟩ := I
  exact ⟨rfl, rf_rel hn h2 h4 hb hW⟩
theorem i_vc_block {k : Nat} {u : SX} {v : SY} (I : i_Rel k u v) (hk : k + 3 ≤ 1537) (v1 : Int32) (v2 : Int32) : wpX_block (fun r u' => wpY_block (fun r' v' => r' = r ∧ i_Rel (k + 3) u' v') v v1 (lw_bz v2)) u v1 (lw_bz v2) := by
  obtain ⟨mm, n, ba, bx, bz, te, t, t', m, lx, tx, ly, wa, bex, ma, bey, rfl, rfl, hn, h2, h4, hb, hW⟩ := I
  unfold wpX_block wpY_block
  refine rx_isBase hn (fun i hi ex => ?_) (fun hno => br_t rfl ?_)
  · subst ex
    have ci : (nI i).toNatClampNeg = i := nI_clamp (by omega)
    have vi : vp_in (nI i) 14 := vp_in_nI (by omega) (by omega)
    have hb' : ∀ j, j < n → upd bx i (vp_nar .boolean (lw_bz v2)) j = upd bz i (vp_nar .boolean (lw_bz v2)) j := fun j hj => by
      unfold upd
      by_cases f : j = i
      · rw [if_pos f, if_pos f]
      · rw [if_neg f, if_neg f]; exact hb j hj
    refine br_f (by decide) ⟨vi, nm_r (e' := upd bx i (vp_nar .boolean (lw_bz v2))) (by rw [ci]) ?_⟩
    refine br_c (fun c => br_f (nI_pos (by omega)) (br_t (nI_lt hi (by omega)) ⟨vi, nm_r (e' := upd bz i (vp_nar .boolean (lw_bz v2))) (by rw [ci]) (br_t c ⟨rfl, rf_rel hn h2 h4 hb' hW⟩)⟩)) (fun c => ?_)
    refine rx_del hn hi hW (br_f (nI_pos (by omega)) (br_t (nI_lt hi (by omega)) ⟨vi, nm_r (e' := upd bz i (vp_nar .boolean (lw_bz v2))) (by rw [ci]) (br_f c ?_)⟩))
    exact ry_del hn hi hW ⟨rfl, rf_rel hn h2 h4 hb' (rf_del_W hW)⟩
  · refine br_c (fun c => ⟨rfl, rf_rel hn h2 h4 hb hW⟩) (fun c => br_c (fun d => ?_) (fun d => ⟨rfl, rf_rel hn h2 h4 hb hW⟩))
    obtain ⟨i, hi, rfl⟩ := nI_of c
    rw [nI_ltI hi (by omega)] at d
    exact absurd rfl (hno i d)
theorem i_vc_setEnergy {k : Nat} {u : SX} {v : SY} (I : i_Rel k u v) (hk : k + 3 ≤ 1537) (v1 : Int32) (v2 : Int32) : wpX_setEnergy (fun r u' => wpY_setEnergy (fun r' v' => r' = r ∧ i_Rel (k + 3) u' v') v v1 v2) u v1 v2 := by
  obtain ⟨mm, n, ba, bx, bz, te, t, t', m, lx, tx, ly, wa, bex, ma, bey, rfl, rfl, hn, h2, h4, hb, hW⟩ := I
  unfold wpX_setEnergy wpY_setEnergy
  have sw : v1 < 17 ↔ ¬ 16 < v1 := by
    rw [Int32.lt_iff_toInt_lt, Int32.lt_iff_toInt_lt, show (17 : Int32).toInt = 17 from by decide, show (16 : Int32).toInt = 16 from by decide]
    omega
  refine br_c (fun c => br_t c ⟨rfl, rf_rel hn h2 h4 hb hW⟩) (fun c => br_c (fun d => ?_) (fun d => br_f c (br_t (Classical.not_not.mp fun z => d (sw.mpr z)) ⟨rfl, rf_rel hn h2 h4 hb hW⟩)))
  have d' := sw.mp d
  have vi : vp_in v1 17 := by
    obtain ⟨i, hi, rfl⟩ := nI_of c
    exact vp_in_nI ((nI_ltI (b := 17) hi (by omega)).mp d) (by omega)
  refine br_c (fun e => br_f c (br_f d' (br_t e ⟨rfl, rf_rel hn h2 h4 hb hW⟩))) (fun e => br_c (fun f => ?_) (fun f => br_f c (br_f d' (br_f e (br_f f ⟨rfl, rf_rel hn h2 h4 hb hW⟩)))))
  exact ⟨vi, nm_e (br_f c (br_f d' (br_f e (br_t f ⟨vi, nm_e ⟨rfl, rf_rel hn h2 h4 hb hW⟩⟩))))⟩
theorem i_vc_canPair {k : Nat} {u : SX} {v : SY} (I : i_Rel k u v) (hk : k + 3 ≤ 1537) (v1 : Int32) (v2 : Int32) : wpX_canPair (fun r => wpY_canPair (fun r' => r' = r ∧ i_Rel (k + 3) u v) v v1 v2) u v1 v2 := by
  obtain ⟨mm, n, ba, bx, bz, te, t, t', m, lx, tx, ly, wa, bex, ma, bey, rfl, rfl, hn, h2, h4, hb, hW⟩ := I
  have hc := rf_cp_eq (mm := mm) (ba := ba) hb
  refine rx_canPair hn h4 (fun i j e1 e2 h3 h5 h6 => ?_) (fun hno => ?_)
  · exact ry_canPair hn h4 (fun _ _ _ _ _ _ _ => ⟨rfl, rf_rel hn h2 h4 hb hW⟩) (fun z => absurd ((hc i j h3 h5).mp h6) (z i j e1 e2 h3 h5))
  · exact ry_canPair hn h4 (fun i j e1 e2 h3 h5 h6 => absurd ((hc i j h3 h5).mpr h6) (hno i j e1 e2 h3 h5)) (fun _ => ⟨rfl, rf_rel hn h2 h4 hb hW⟩)
theorem i_vc_leastEnergy {k : Nat} {u : SX} {v : SY} (I : i_Rel k u v) (hk : k + 3 ≤ 1537) : wpX_leastEnergy (fun r u' => wpY_leastEnergy (fun r' v' => r' = r ∧ i_Rel (k + 3) u' v') v) u := by
  obtain ⟨mm, n, ba, bx, bz, te, t, t', m, lx, tx, ly, wa, bex, ma, bey, rfl, rfl, hn, h2, h4, hb, hW⟩ := I
  have hc := rf_cp_eq (mm := mm) (ba := ba) hb
  unfold wpX_leastEnergy wpY_leastEnergy
  refine rx_survey hn h4 h2 (fun _ _ _ _ => Iff.rfl) (fun w tb => ry_search hn h4 h2 hc (fun w' tb' => ?_))
  rw [rf_res_y]
  exact ⟨rfl, rf_rel hn h2 h4 hb hW⟩
theorem i_vc_structures {k : Nat} {u : SX} {v : SY} (I : i_Rel k u v) (hk : k + 3 ≤ 1537) : wpX_structures (fun r u' => wpY_structures (fun r' v' => r' = r ∧ i_Rel (k + 3) u' v') v) u := by
  obtain ⟨mm, n, ba, bx, bz, te, t, t', m, lx, tx, ly, wa, bex, ma, bey, rfl, rfl, hn, h2, h4, hb, hW⟩ := I
  have hc := rf_cp_eq (mm := mm) (ba := ba) hb
  unfold wpX_structures
  exact rx_survey hn h4 h2 (fun _ _ _ _ => Iff.rfl) (fun w tb => ry_structs hn h4 h2 hc (fun w' => ⟨rfl, rf_rel hn h2 h4 hb hW⟩))
theorem i_vc_atGap {k : Nat} {u : SX} {v : SY} (I : i_Rel k u v) (hk : k + 3 ≤ 1537) (v1 : Int32) : wpX_atGap (fun r u' => wpY_atGap (fun r' v' => r' = r ∧ i_Rel (k + 3) u' v') v v1) u v1 := by
  obtain ⟨mm, n, ba, bx, bz, te, t, t', m, lx, tx, ly, wa, bex, ma, bey, rfl, rfl, hn, h2, h4, hb, hW⟩ := I
  have hc := rf_cp_eq (mm := mm) (ba := ba) hb
  unfold wpX_atGap wpY_atGap
  refine br_c (fun c => br_t c ⟨rfl, rf_rel hn h2 h4 hb hW⟩) (fun c => br_c (fun d => ?_) (fun d => br_f c (br_f d ⟨rfl, rf_rel hn h2 h4 hb hW⟩)))
  refine rx_survey hn h4 h2 (fun _ _ _ _ => Iff.rfl) (fun w tb => rx_count hn h4 h2 (fun _ _ _ _ => Iff.rfl) (fun w2 => br_f c (br_t d (ry_search hn h4 h2 hc (fun w' tb' => ?_)))))
  rw [rf_res_y]
  exact ry_count hn h4 h2 hc (fun w3 => ⟨rfl, rf_rel hn h2 h4 hb hW⟩)
theorem i_vc_partner {k : Nat} {u : SX} {v : SY} (I : i_Rel k u v) (hk : k + 3 ≤ 1537) (v1 : Int32) : wpX_partner (fun r u' => wpY_partner (fun r' v' => r' = r ∧ i_Rel (k + 3) u' v') v v1) u v1 := by
  obtain ⟨mm, n, ba, bx, bz, te, t, t', m, lx, tx, ly, wa, bex, ma, bey, rfl, rfl, hn, h2, h4, hb, hW⟩ := I
  have hc := rf_cp_eq (mm := mm) (ba := ba) hb
  unfold wpX_partner wpY_partner
  refine rx_isBase hn (fun i hi ex => ?_) (fun hno => br_t rfl ?_)
  · subst ex
    have ci : (nI i).toNatClampNeg = i := nI_clamp (by omega)
    have vi : vp_in (nI i) 14 := vp_in_nI (by omega) (by omega)
    refine br_f (by decide) (rx_survey hn h4 h2 (fun _ _ _ _ => Iff.rfl) (fun w tb => ⟨vi, br_f (nI_pos (by omega)) (br_t (nI_lt hi (by omega)) (ry_search hn h4 h2 hc (fun w' tb' => ⟨vi, ?_⟩)))⟩))
    rw [rf_res_y, ci]
    have hR := rf_res_W (ba := ba) (te := te) (n := n) (cp := rf_cp mm ba bx)
    show (0 ≤ rf_c (-1) tb' (rf_res ba te n (rf_cp mm ba bx)).2 i → vp_in (nI i) 14 ∧ rf_c (-1) tb' (rf_res ba te n (rf_cp mm ba bx)).2 i = rf_c (-3) tb (rf_res ba te n (rf_cp mm ba bx)).2 i ∧ i_Rel (k + 3) _ _) ∧ (¬ 0 ≤ rf_c (-1) tb' (rf_res ba te n (rf_cp mm ba bx)).2 i → (-3) = rf_c (-3) tb (rf_res ba te n (rf_cp mm ba bx)).2 i ∧ i_Rel (k + 3) _ _)
    cases hm : (rf_res ba te n (rf_cp mm ba bx)).2 i with
    | none =>
      rw [rf_c_n (by omega) hm, rf_c_n (by omega) hm]
      exact br_f (by decide) ⟨rfl, rf_rel hn h2 h4 hb hW⟩
    | some q =>
      have hq := (hR.1 i q hm).2.1
      rw [rf_c_s (by omega) hm, rf_c_s (by omega) hm]
      exact br_t (nI_pos' (by omega)) ⟨vi, rfl, rf_rel hn h2 h4 hb hW⟩
  · refine br_c (fun c => ⟨rfl, rf_rel hn h2 h4 hb hW⟩) (fun c => br_c (fun d => ?_) (fun d => ⟨rfl, rf_rel hn h2 h4 hb hW⟩))
    obtain ⟨i, hi, rfl⟩ := nI_of c
    rw [nI_ltI hi (by omega)] at d
    exact absurd rfl (hno i d)
theorem i_vc_needed {k : Nat} {u : SX} {v : SY} (I : i_Rel k u v) (hk : k + 3 ≤ 1537) (v1 : Int32) (v2 : Int32) : wpX_needed (fun r u' => wpY_needed (fun r' v' => r' = r ∧ i_Rel (k + 3) u' v') v v1 v2) u v1 v2 := by
  obtain ⟨mm, n, ba, bx, bz, te, t, t', m, lx, tx, ly, wa, bex, ma, bey, rfl, rfl, hn, h2, h4, hb, hW⟩ := I
  have hc := rf_cp_eq (mm := mm) (ba := ba) hb
  unfold wpX_needed wpY_needed
  refine rx_canPair hn h4 (fun i j e1 e2 h3 h5 h6 => br_f (by decide) ?_) (fun hno => br_t rfl ?_)
  · subst e1 e2
    refine rx_survey hn h4 h2 (fun _ _ _ _ => Iff.rfl) (fun w tb => rx_count hn h4 h2 (fun _ _ _ _ => Iff.rfl) (fun w2 => rx_pair hn h4 h2 (by omega) (by omega) (fun _ _ _ _ => Iff.rfl) (fun w3 => ?_)))
    have no : (∀ i' j', nI i = nI i' → nI j = nI j' → i' < j' → j' < n → ¬ rf_cp mm ba bz i' j') → False := fun z => z i j rfl rfl h3 h5 ((hc i j h3 h5).mp h6)
    refine br_c (fun c => ?_) (fun c => ?_)
    · refine ry_canPair hn h4 (fun _ _ _ _ _ _ _ => br_f (by decide) (ry_search hn h4 h2 hc (fun w' tb' => ?_))) (fun z => absurd z no)
      rw [rf_res_y]
      exact ry_pair hn h4 h2 (by omega) (by omega) hc (fun w4 => ry_count hn h4 h2 hc (fun w5 => br_t c ⟨rfl, rf_rel hn h2 h4 hb hW⟩))
    · refine ry_canPair hn h4 (fun _ _ _ _ _ _ _ => br_f (by decide) (ry_search hn h4 h2 hc (fun w' tb' => ?_))) (fun z => absurd z no)
      rw [rf_res_y]
      exact ry_pair hn h4 h2 (by omega) (by omega) hc (fun w4 => ry_count hn h4 h2 hc (fun w5 => br_f c ⟨rfl, rf_rel hn h2 h4 hb hW⟩))
  · exact ry_canPair hn h4 (fun i j e1 e2 h3 h5 h6 => absurd ((hc i j h3 h5).mpr h6) (hno i j e1 e2 h3 h5)) (fun _ => br_t rfl ⟨rfl, rf_rel hn h2 h4 hb hW⟩)
theorem i_vc_optimaWith {k : Nat} {u : SX} {v : SY} (I : i_Rel k u v) (hk : k + 3 ≤ 1537) (v1 : Int32) (v2 : Int32) : wpX_optimaWith (fun r u' => wpY_optimaWith (fun r' v' => r' = r ∧ i_Rel (k + 3) u' v') v v1 v2) u v1 v2 := by
  obtain ⟨mm, n, ba, bx, bz, te, t, t', m, lx, tx, ly, wa, bex, ma, bey, rfl, rfl, hn, h2, h4, hb, hW⟩ := I
  have hc := rf_cp_eq (mm := mm) (ba := ba) hb
  unfold wpX_optimaWith wpY_optimaWith
  refine rx_canPair hn h4 (fun i j e1 e2 h3 h5 h6 => br_f (by decide) ?_) (fun hno => br_t rfl ?_)
  · subst e1 e2
    refine rx_survey hn h4 h2 (fun _ _ _ _ => Iff.rfl) (fun w tb => rx_pair hn h4 h2 (by omega) (by omega) (fun _ _ _ _ => Iff.rfl) (fun w3 => ?_))
    have no : (∀ i' j', nI i = nI i' → nI j = nI j' → i' < j' → j' < n → ¬ rf_cp mm ba bz i' j') → False := fun z => z i j rfl rfl h3 h5 ((hc i j h3 h5).mp h6)
    refine ry_canPair hn h4 (fun _ _ _ _ _ _ _ => br_f (by decide) (ry_search hn h4 h2 hc (fun w' tb' => ?_))) (fun z => absurd z no)
    rw [rf_res_y]
    exact ry_pair hn h4 h2 (by omega) (by omega) hc (fun w4 => ⟨rfl, rf_rel hn h2 h4 hb hW⟩)
  · exact ry_canPair hn h4 (fun i j e1 e2 h3 h5 h6 => absurd ((hc i j h3 h5).mpr h6) (hno i j e1 e2 h3 h5)) (fun _ => br_t rfl ⟨rfl, rf_rel hn h2 h4 hb hW⟩)
theorem i_vc_trialPair {k : Nat} {u : SX} {v : SY} (I : i_Rel k u v) (hk : k + 3 ≤ 1537) (v1 : Int32) (v2 : Int32) : wpX_trialPair (fun r u' => wpY_trialPair (fun r' v' => r' = r ∧ i_Rel (k + 3) u' v') v v1 v2) u v1 v2 := by
  obtain ⟨mm, n, ba, bx, bz, te, t, t', m, lx, tx, ly, wa, bex, ma, bey, rfl, rfl, hn, h2, h4, hb, hW⟩ := I
  have hc := rf_cp_eq (mm := mm) (ba := ba) hb
  unfold wpX_trialPair wpY_trialPair
  refine rx_canPair hn h4 (fun i j e1 e2 h3 h5 h6 => br_f (by decide) ?_) (fun hno => br_t rfl ?_)
  · subst e1 e2
    have ci : (nI i).toNatClampNeg = i := nI_clamp (by omega)
    have cj : (nI j).toNatClampNeg = j := nI_clamp (by omega)
    have no : (∀ i' j', nI i = nI i' → nI j = nI j' → i' < j' → j' < n → ¬ rf_cp mm ba bz i' j') → False := fun z => z i j rfl rfl h3 h5 ((hc i j h3 h5).mp h6)
    refine rx_fits_trial h3 (by omega) (fun p q z => by have := (hW.1 p q z).2.1; omega) (fun f => br_f (by decide) ?_) (fun f => br_t rfl ?_)
    · have hJ := rf_Wj hW h3 h5 f
      refine rx_join_trial (by omega) (by omega) (rx_pairs hn hJ ?_)
      refine ry_canPair hn h4 (fun _ _ _ _ _ _ _ => br_f (by decide) (ry_take (ry_fits hn h3 h5 hW (fun _ => br_f (by decide) ?_) (fun z => absurd f z)))) (fun z => absurd z no)
      refine ⟨vp_in_nI (by omega) (by omega), nm_e ⟨vp_in_nI (by omega) (by omega), nm_r (e' := rf_c (-1) t' (rf_join m i j)) (by rw [ci, cj]; exact rf_c_j (by omega) (by omega)) ?_⟩⟩
      exact ry_tpairs hn hJ ⟨rfl, rf_rel hn h2 h4 hb hJ⟩
    · exact ry_canPair hn h4 (fun _ _ _ _ _ _ _ => br_f (by decide) (ry_take (ry_fits hn h3 h5 hW (fun z => absurd z f) (fun _ => br_t rfl ⟨rfl, rf_rel hn h2 h4 hb hW⟩)))) (fun z => absurd z no)
  · exact ry_canPair hn h4 (fun i j e1 e2 h3 h5 h6 => absurd ((hc i j h3 h5).mpr h6) (hno i j e1 e2 h3 h5)) (fun _ => br_t rfl ⟨rfl, rf_rel hn h2 h4 hb hW⟩)
theorem i_vc_trialClear {k : Nat} {u : SX} {v : SY} (I : i_Rel k u v) (hk : k + 3 ≤ 1537) : wpX_trialClear (fun r u' => wpY_trialClear (fun r' v' => r' = r ∧ i_Rel (k + 3) u' v') v) u := by
  obtain ⟨mm, n, ba, bx, bz, te, t, t', m, lx, tx, ly, wa, bex, ma, bey, rfl, rfl, hn, h2, h4, hb, hW⟩ := I
  unfold wpX_trialClear wpY_trialClear
  exact rx_pairs hn hW (rx_clear_trial (ry_tpairs hn hW (ry_clear ⟨rfl, rf_rel hn h2 h4 hb (rf_W0 n)⟩)))
theorem i_vc_trialGap {k : Nat} {u : SX} {v : SY} (I : i_Rel k u v) (hk : k + 3 ≤ 1537) : wpX_trialGap (fun r u' => wpY_trialGap (fun r' v' => r' = r ∧ i_Rel (k + 3) u' v') v) u := by
  obtain ⟨mm, n, ba, bx, bz, te, t, t', m, lx, tx, ly, wa, bex, ma, bey, rfl, rfl, hn, h2, h4, hb, hW⟩ := I
  have hc := rf_cp_eq (mm := mm) (ba := ba) hb
  unfold wpX_trialGap wpY_trialGap
  refine rx_survey hn h4 h2 (fun _ _ _ _ => Iff.rfl) (fun w tb => rx_energy_trial hn hW (ry_search hn h4 h2 hc (fun w' tb' => ?_)))
  rw [rf_res_y]
  exact ry_take (ry_energy hn hW ⟨rfl, rf_rel hn h2 h4 hb hW⟩)
