/-! the trial on both sides; the two walks' answers are one -/
def rf_del (m : rf_M) (p : Nat) : rf_M := (m p).elim m (fun q => rf_sep m p q)
theorem rf_del_n {m : rf_M} {p : Nat} (h : m p = none) : rf_del m p = m := by unfold rf_del; rw [h]; rfl
theorem rf_del_s {m : rf_M} {p q : Nat} (h : m p = some q) : rf_del m p = rf_sep m p q := by unfold rf_del; rw [h]; rfl
theorem rf_del_p {m : rf_M} {p : Nat} : rf_del m p p = none := by
  cases h : m p with
  | none => rw [rf_del_n h, h]
  | some q => rw [rf_del_s h, rf_sp]
theorem rf_del_W {n : Nat} {m : rf_M} {p : Nat} (hW : rf_W n m) : rf_W n (rf_del m p) := by
  cases h : m p with
  | none => rw [rf_del_n h]; exact hW
  | some q => rw [rf_del_s h]; exact rf_Ws hW h
theorem rf_W_up {n : Nat} {m : rf_M} (hW : rf_W n m) : rf_W (n + 1) m :=
  ⟨fun i q h => by
    obtain ⟨a1, a2, a3, a4⟩ := hW.1 i q h
    exact ⟨by omega, by omega, a3, a4⟩, hW.2⟩
theorem rf_W_dn {n : Nat} {m : rf_M} (hW : rf_W (n + 1) m) (h : m n = none) : rf_W n m :=
  ⟨fun i q hi => by
    obtain ⟨a1, a2, a3, a4⟩ := hW.1 i q hi
    have b1 : i ≠ n := fun e => by rw [e, h] at hi; cases hi
    have b2 : q ≠ n := fun e => by rw [e, h] at a4; cases a4
    exact ⟨by omega, by omega, a3, a4⟩, hW.2⟩
theorem rf_W_n {n : Nat} {m : rf_M} (hW : rf_W n m) : m n = none := by
  cases h : m n with
  | none => rfl
  | some q => have := (hW.1 n q h).1; omega
def rf_pr (m : rf_M) (i : Nat) : Prop := ∃ j, m i = some j ∧ i < j
section
variable {mn sz ls tl : Int32} {ba bl te wa be t : Nat → Int32} {n : Nat} {m : rf_M}
theorem rx_del {post : SX → Prop} {p : Nat} (hn : n ≤ 14) (hp : p < n) (hW : rf_W n m) (h : post (mn, sz, ls, tl, ba, bl, te, rf_c (-3) t (rf_del m p), wa, be)) : wpX_separate__trial post (mn, sz, ls, tl, ba, bl, te, rf_c (-3) t m, wa, be) (nI p) :=
  rx_sep_trial (by omega) (fun q z => by have := (hW.1 p q z).2.1; omega) (fun z => by rw [rf_del_n z] at h; exact h) (fun q z => by rw [rf_del_s z] at h; exact h)
theorem rx_pairs {post : Int32 → Prop} (hn : n ≤ 14) (hW : rf_W n m) (h : post (nI (rf_ct (rf_pr m) n))) : wpX_countPairs__trial post (mn, nI n, ls, tl, ba, bl, te, rf_c (-3) t m, wa, be) := by
  unfold wpX_countPairs__trial
  have key : ∀ d i, i + d = n → wX_countPairs__trial_4 post mn (nI n) ls tl ba bl te (rf_c (-3) t m) wa be (d + 1) (nI (rf_ct (rf_pr m) i)) (nI i) := by
    intro d
    induction d with
    | zero =>
      intro i hi
      have e : i = n := by omega
      subst e
      exact br_t (nI_le (Nat.le_refl _) (by omega)) h
    | succ d ih =>
      intro i hi
      have ci : (nI i).toNatClampNeg = i := nI_clamp (by omega)
      have g := ih (i + 1) (by omega)
      refine br_f (nI_ge (by omega) (by omega)) ⟨vp_in_nI (by omega) (by omega), ?_⟩
      rw [ci]
      cases hm : m i with
      | none =>
        rw [rf_ct_f (fun ⟨j, z, _⟩ => by rw [hm] at z; cases z)] at g
        rw [rf_c_n (by omega) hm]
        exact br_t (rf_zle rf_z3 (by omega)) (nm_r (nI_1 i) g)
      | some j =>
        have hj := (hW.1 i j hm).2.1
        rw [rf_c_s (by omega) hm]
        refine pk_le j i (fun c => ?_) (fun c => ?_)
        · rw [rf_ct_f (fun ⟨j', z, z2⟩ => by rw [hm] at z; cases z; omega)] at g
          exact nm_r (nI_1 i) g
        · rw [rf_ct_t (show rf_pr m i from ⟨j, hm, c⟩)] at g
          exact nm_r (nI_1 _) (nm_r (nI_1 i) g)
  exact ⟨_, key n 0 (by omega)⟩
end
section
variable {mn sz ls : Int32} {ba bl te ma be t : Nat → Int32} {n : Nat} {m : rf_M}
theorem ry_del {post : SY → Prop} {p : Nat} (hn : n ≤ 14) (hp : p < n) (hW : rf_W n m) (h : post (ls, mn, sz, ba, bl, te, rf_c (-1) t (rf_del m p), ma, be)) : wpY_dropTrialPairOf post (ls, mn, sz, ba, bl, te, rf_c (-1) t m, ma, be) (nI p) := by
  have cp : (nI p).toNatClampNeg = p := nI_clamp (by omega)
  have vp : vp_in (nI p) 14 := vp_in_nI (by omega) (by omega)
  unfold wpY_dropTrialPairOf
  rw [cp]
  cases hm : m p with
  | none =>
    rw [rf_del_n hm] at h
    refine ⟨vp, br_t (by rw [rf_c_n (by omega) hm]; decide) ⟨vp, nm_r (rf_c_u (by omega) hm) h⟩⟩
  | some q =>
    have hq := (hW.1 p q hm).2.1
    have cq : (nI q).toNatClampNeg = q := nI_clamp (by omega)
    rw [rf_del_s hm] at h
    have e := rf_c_s (z := -1) (t := t) (m := m) (i := p) (q := q) (by omega) hm
    refine ⟨vp, br_f (by rw [e]; exact nI_pos (by omega)) ⟨vp, ?_⟩⟩
    rw [e, cq]
    exact ⟨vp_in_nI (by omega) (by omega), nm_e ⟨vp, nm_r (rf_c_q (by omega) (by omega)) h⟩⟩
theorem ry_tpairs {post : Int32 → Prop} (hn : n ≤ 14) (hW : rf_W n m) (h : post (nI (rf_ct (rf_pr m) n))) : wpY_trialPairs post (ls, mn, nI n, ba, bl, te, rf_c (-1) t m, ma, be) := by
  unfold wpY_trialPairs
  have key : ∀ d i, i + d = n → wY_trialPairs_4 post ls mn (nI n) ba bl te (rf_c (-1) t m) ma be (d + 1) (nI (rf_ct (rf_pr m) i)) (nI i) := by
    intro d
    induction d with
    | zero =>
      intro i hi
      have e : i = n := by omega
      subst e
      exact br_t (nI_le (Nat.le_refl _) (by omega)) h
    | succ d ih =>
      intro i hi
      have ci : (nI i).toNatClampNeg = i := nI_clamp (by omega)
      have g := ih (i + 1) (by omega)
      refine br_f (nI_ge (by omega) (by omega)) ⟨vp_in_nI (by omega) (by omega), ?_⟩
      rw [ci]
      cases hm : m i with
      | none =>
        rw [rf_ct_f (fun ⟨j, z, _⟩ => by rw [hm] at z; cases z)] at g
        rw [rf_c_n (by omega) hm]
        exact br_t (rf_zle rf_z1 (by omega)) (nm_r (nI_1 i) g)
      | some j =>
        have hj := (hW.1 i j hm).2.1
        rw [rf_c_s (by omega) hm]
        refine pk_le j i (fun c => ?_) (fun c => ?_)
        · rw [rf_ct_f (fun ⟨j', z, z2⟩ => by rw [hm] at z; cases z; omega)] at g
          exact nm_r (nI_1 i) g
        · rw [rf_ct_t (show rf_pr m i from ⟨j, hm, c⟩)] at g
          exact nm_r (nI_1 _) (nm_r (nI_1 i) g)
  exact ⟨_, key n 0 (by omega)⟩
theorem ry_take {post : SY → Prop} (h : post (ls, mn, sz, ba, bl, te, rf_c (-1) t m, rf_c (-1) ma m, be)) : wpY_takeTrial post (ls, mn, sz, ba, bl, te, rf_c (-1) t m, ma, be) := by
  unfold wpY_takeTrial
  have key : ∀ d i, i + d = 14 → wY_takeTrial_2 post ls mn sz (d + 1) (nI i) ba bl te (rf_c (-1) t m) (rf_cpy (rf_c (-1) t m) ma i) be := by
    intro d
    induction d with
    | zero =>
      intro i hi
      have e : i = 14 := by omega
      subst e
      refine br_t (by decide) ?_
      rw [rf_cpy_e]; exact h
    | succ d ih =>
      intro i hi
      have ci : (nI i).toNatClampNeg = i := nI_clamp (by omega)
      have vi : vp_in (nI i) 14 := vp_in_nI (by omega) (by omega)
      refine br_f (nI_ge (b := 14) (by omega) (by decide)) ⟨vi, vi, nm_r (by rw [ci, rf_cpy_s]) (nm_r (nI_1 i) (ih (i + 1) (by omega)))⟩
  refine ⟨15, ?_⟩
  have g := key 14 0 rfl
  rw [rf_cpy_0] at g
  exact g
theorem ry_clear {post : Int32 → SY → Prop} {r : Int32} {w : Nat → Int32} (h : post r (ls, mn, sz, ba, bl, te, rf_c (-1) w rf_0, ma, be)) : ∃ n7, wY_trialClear_7 post r ls mn sz n7 0 ba bl te w ma be := by
  have key : ∀ d i, i + d = 14 → wY_trialClear_7 post r ls mn sz (d + 1) (nI i) ba bl te (rf_ini (-1) w i) ma be := by
    intro d
    induction d with
    | zero =>
      intro i hi
      have e : i = 14 := by omega
      subst e
      refine br_t (by decide) ?_
      rw [rf_ini_e]; exact h
    | succ d ih =>
      intro i hi
      have ci : (nI i).toNatClampNeg = i := nI_clamp (by omega)
      have vi : vp_in (nI i) 14 := vp_in_nI (by omega) (by omega)
      refine br_f (nI_ge (b := 14) (by omega) (by decide)) ⟨vi, nm_r (by rw [ci, rf_ini_s]) (nm_r (nI_1 i) (ih (i + 1) (by omega)))⟩
  refine ⟨15, ?_⟩
  have g := key 14 0 rfl
  rw [rf_ini_0] at g
  exact g
end
/-- what both walks find -/
noncomputable def rf_res (ba te : Nat → Int32) (n : Nat) (cp : Nat → Nat → Prop) : Int32 × rf_M := (rf_L n cp).foldl (rf_fx fun m => rf_EN ba te m n) (0, rf_0)
theorem rf_res_y {ba te : Nat → Int32} {n : Nat} {cp : Nat → Nat → Prop} : (rf_L n cp).reverse.foldl (rf_fy fun m => rf_EN ba te m n) (1000000, rf_0) = rf_res ba te n cp := by
  unfold rf_res
  obtain ⟨l, hl⟩ := rf_L_h (n := n) (cp := cp)
  rw [hl]
  exact (rf_best (rf_EN_0 ba te n) (by show (0 : Int32) < 1000000; decide)).symm
theorem rf_fx_W {n : Nat} {E : rf_M → Int32} : ∀ (l : List rf_M) (a : Int32 × rf_M), rf_W n a.2 → (∀ x, x ∈ l → rf_W n x) → rf_W n (l.foldl (rf_fx E) a).2
  | [], a, h, _ => h
  | m :: l, a, h, hl => by
    rw [List.foldl_cons]
    refine rf_fx_W l _ ?_ (fun x hx => hl x (List.mem_cons_of_mem _ hx))
    unfold rf_fx
    by_cases c : E m ≤ a.1
    · rw [if_pos c]; exact hl m (List.mem_cons_self ..)
    · rw [if_neg c]; exact h
theorem rf_res_W {ba te : Nat → Int32} {n : Nat} {cp : Nat → Nat → Prop} : rf_W n (rf_res ba te n cp).2 := rf_fx_W _ _ (rf_W0 n) rf_L_W
theorem rf_cp_eq {mm n : Nat} {ba bx bz : Nat → Int32} (h : ∀ i, i < n → bx i = bz i) : ∀ i j, i < j → j < n → (rf_cp mm ba bx i j ↔ rf_cp mm ba bz i j) := by
  intro i j h1 h2
  unfold rf_cp
  rw [h i (by omega), h j h2]
