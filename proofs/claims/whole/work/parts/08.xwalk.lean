/-! X: the walk through all structures -/
theorem rf_dn_ok {ok : Nat → Prop} : ∀ (a r : Nat), rf_dn ok a = some r → ok r ∧ r < a := by
  intro a
  induction a with
  | zero => intro r h; cases h
  | succ a ih =>
    intro r h
    by_cases o : ok a
    · rw [rf_dn_t o] at h; cases h; exact ⟨o, by omega⟩
    · rw [rf_dn_f o] at h
      have := ih r h
      exact ⟨this.1, by omega⟩
theorem rf_dn_lo {n : Nat} {cp : Nat → Nat → Prop} {m : rf_M} {p : Nat} : ∀ b, b ≤ p + 1 → rf_dn (rf_ok n cp m p) b = none := by
  intro b
  induction b with
  | zero => intro _; rfl
  | succ b ih =>
    intro h
    rw [rf_dn_f (fun z => by have := z.1; omega)]
    exact ih (by omega)
theorem rf_sm1 (n : Nat) : nI n - 1 = nI n + (-1) := Int32.sub_eq_add_neg _ _
section
variable {mn sz ls tl : Int32} {ba bl te tr wa be t : Nat → Int32} {n mm : Nat} {m : rf_M} {cp : Nat → Nat → Prop}
theorem rx_next {post : Int32 → Prop} {p a : Nat} (hn : n ≤ 14) (hm : mm ≤ 4) (hc : ∀ i j, i < j → j < n → (cp i j ↔ rf_cp mm ba bl i j)) (hW : rf_W n m) (hpa : p < a) (han : a ≤ n)
    (h : post ((rf_dn (rf_ok n cp m p) a).elim (-3) nI)) : wpX_nextPartner post (nI mm, nI n, ls, tl, ba, bl, te, tr, rf_c (-3) t m, be) (nI p) (nI a) := by
  have hb : ∀ p q, m p = some q → q < 14 := fun p q z => by have := (hW.1 p q z).2.1; omega
  unfold wpX_nextPartner
  have key : ∀ d b, b = p + d → b < n → post ((rf_dn (rf_ok n cp m p) (b + 1)).elim (-3) nI) → wX_nextPartner_4 post (nI p) (nI mm) (nI n) ls tl ba bl te tr (rf_c (-3) t m) be (d + 1) (nI b) := by
    intro d
    induction d with
    | zero =>
      intro b hb1 hb2 hp
      rw [rf_dn_lo (b + 1) (by omega)] at hp
      exact br_t (nI_le (by omega) (by omega)) hp
    | succ d ih =>
      intro b hb1 hb2 hp
      obtain ⟨b', rfl⟩ : ∃ b', b = b' + 1 := ⟨b - 1, by omega⟩
      have no : ¬ rf_ok n cp m p (b' + 1) → wX_nextPartner_4 post (nI p) (nI mm) (nI n) ls tl ba bl te tr (rf_c (-3) t m) be (d + 1) (nI b') := fun z => by
        rw [rf_dn_f z] at hp
        exact ih b' (by omega) (by omega) hp
      refine br_f (nI_ge (by omega) (by omega)) ?_
      refine rx_canPair hn hm (fun i j e1 e2 h3 h4 h5 => ?_) (fun hno => ?_)
      · refine br_f (by decide) ?_
        have e1' := (nI_eq (by omega) (by omega)).mp e1
        have e2' := (nI_eq (by omega) (by omega)).mp e2
        subst e1' e2'
        refine rx_fits_walk (by omega) (by omega) hb (fun f => ?_) (fun f => ?_)
        · rw [rf_dn_t (show rf_ok n cp m p (b' + 1) from ⟨h3, h4, (hc _ _ h3 h4).mpr h5, f⟩)] at hp
          exact br_f (by decide) hp
        · exact br_t rfl (nm_r (pk_m1 b') (no fun z => f z.2.2.2))
      · exact br_t rfl (nm_r (pk_m1 b') (no fun z => hno p (b' + 1) rfl rfl z.1 z.2.1 ((hc _ _ z.1 z.2.1).mp z.2.2.1)))
  obtain ⟨b, rfl⟩ : ∃ b, a = b + 1 := ⟨a - 1, by omega⟩
  exact nm_r (nI_pred b) ⟨_, key (b - p) b (by omega) (by omega) h⟩
theorem rx_step {post : Int32 → SX → Prop} (hn : n ≤ 14) (hm : mm ≤ 4) (hc : ∀ i j, i < j → j < n → (cp i j ↔ rf_cp mm ba bl i j)) (hW : rf_W n m)
    (h1 : ∀ m', rf_nx n (rf_ok n cp) n m = some m' → post 1 (nI mm, nI n, ls, tl, ba, bl, te, tr, rf_c (-3) t m', be))
    (h0 : rf_nx n (rf_ok n cp) n m = none → ∀ m', post 0 (nI mm, nI n, ls, tl, ba, bl, te, tr, rf_c (-3) t m', be)) : wpX_stepOn post (nI mm, nI n, ls, tl, ba, bl, te, tr, rf_c (-3) t m, be) := by
  unfold wpX_stepOn
  have key : ∀ p m, rf_W n m → p ≤ n → (∀ m', rf_nx n (rf_ok n cp) p m = some m' → post 1 (nI mm, nI n, ls, tl, ba, bl, te, tr, rf_c (-3) t m', be)) →
      (rf_nx n (rf_ok n cp) p m = none → ∀ m', post 0 (nI mm, nI n, ls, tl, ba, bl, te, tr, rf_c (-3) t m', be)) → wX_stepOn_7 post (p + 1) (nI p + (-1)) (nI mm) (nI n) ls tl ba bl te tr (rf_c (-3) t m) be := by
    intro p
    induction p with
    | zero =>
      intro m hW hp h1 h0
      exact br_t (by decide) (h0 rfl m)
    | succ p ih =>
      intro m hW hp h1 h0
      have hb : ∀ q, m p = some q → q < 14 := fun q z => by have := (hW.1 p q z).2.1; omega
      rw [pk_m1]
      have cp' : (nI p).toNatClampNeg = p := nI_clamp (by omega)
      have dig : ∀ (m' : rf_M) (a : Nat), rf_W n m' → p < a → a ≤ n → rf_nx n (rf_ok n cp) (p + 1) m = rf_dg n (rf_ok n cp) p m' a →
          wpX_nextPartner (fun r => (r = (-3) → ∀ x, x = nI p + (-1) → wX_stepOn_7 post (p + 1) x (nI mm) (nI n) ls tl ba bl te tr (rf_c (-3) t m') be) ∧ (¬ r = (-3) → wpX_join__walk (fun u => match u with | (f_minimum, f_size, f_least, f_total, a_bases, a_blocked, a_terms, a_trial, a_walk, a_best) => post 1 (f_minimum, f_size, f_least, f_total, a_bases, a_blocked, a_terms, a_trial, a_walk, a_best)) (nI mm, nI n, ls, tl, ba, bl, te, tr, rf_c (-3) t m', be) (nI p) r)) (nI mm, nI n, ls, tl, ba, bl, te, tr, rf_c (-3) t m', be) (nI p) (nI a) := by
        intro m' a hW' hpa han e
        refine rx_next hn hm hc hW' hpa han ?_
        unfold rf_dg at e
        cases hd : rf_dn (rf_ok n cp m' p) a with
        | none =>
          rw [hd] at e
          have e' : rf_nx n (rf_ok n cp) (p + 1) m = rf_nx n (rf_ok n cp) p m' := e
          refine br_t rfl (nm_e ?_)
          exact ih m' hW' (by omega) (fun m2 z => h1 m2 (e'.trans z)) (fun z => h0 (e'.trans z))
        | some r =>
          rw [hd] at e
          have e' : rf_nx n (rf_ok n cp) (p + 1) m = some (rf_join m' p r) := e
          have hr := (rf_dn_ok _ _ hd).1.2.1
          exact br_f (rf_zne rf_z3 (by omega)) (rx_join_walk (by omega) (by omega) (h1 _ e'))
      refine br_f (nI_pos (by omega)) ⟨vp_in_nI (by omega) (by omega), ?_⟩
      rw [cp']
      cases hmp : m p with
      | none =>
        refine nm_r (rf_c_n (by omega) hmp) (br_t rfl (br_t rfl ?_))
        exact rx_sep_walk (by omega) hb (fun _ => dig m n hW (by omega) (Nat.le_refl n) (rf_nx_n hmp)) (fun q z => by rw [hmp] at z; cases z)
      | some q =>
        have hq := hb q hmp
        have hq2 := (hW.1 p q hmp).2.1
        refine nm_r (rf_c_s (by omega) hmp) (br_f (rf_zne rf_z3 (by omega)) ?_)
        refine pk_le q p (fun c => ?_) (fun c => ?_)
        · have e := rf_nx_d (n := n) (ok := rf_ok n cp) hmp (by omega)
          exact nm_e (ih m hW (by omega) (fun m2 z => h1 m2 (e.trans z)) (fun z => h0 (e.trans z)))
        · refine br_f (rf_zne rf_z3 (by omega)) ?_
          exact rx_sep_walk (by omega) hb (fun z => by rw [hmp] at z; cases z) (fun q' z => by
            rw [hmp] at z; cases z
            exact dig (rf_sep m p q) q (rf_Ws hW hmp) c (by omega) (rf_nx_u hmp c))
  exact nm_r (rf_sm1 n) ⟨_, key n m hW (Nat.le_refl n) h1 h0⟩
theorem rx_survey_loop {post : SX → Prop} (hn : n ≤ 14) (hm : mm ≤ 4) (hc : ∀ i j, i < j → j < n → (cp i j ↔ rf_cp mm ba bl i j)) :
    ∀ (l : List rf_M) (m : rf_M) (acc : Int32 × rf_M) (st ct : Nat) (be : Nat → Int32), rf_go (rf_nx n (rf_ok n cp) n) (rf_nx n (rf_ok n cp) n m) l none → (∀ x, x ∈ m :: l → rf_W n x) →
    st + l.length < 1000000 → (rf_EN ba te m n ≤ acc.1 ∨ ∃ tb, be = rf_c (-3) tb acc.2) →
    (∀ m' tb, post (nI mm, nI n, ((m :: l).foldl (rf_fx fun m => rf_EN ba te m n) acc).1, nI (ct + l.length + 1), ba, bl, te, tr, rf_c (-3) t m', rf_c (-3) tb ((m :: l).foldl (rf_fx fun m => rf_EN ba te m n) acc).2)) →
    wX_survey_22 post (l.length + 2) 1 (nI st) (nI mm) (nI n) acc.1 (nI ct) ba bl te tr (rf_c (-3) t m) be := by
  intro l
  induction l with
  | nil =>
    intro m acc st ct be hgo hWs hst hco h
    have hW := hWs m (List.mem_cons_self ..)
    have hno : rf_nx n (rf_ok n cp) n m = none := hgo
    have step : ∀ (le' : Int32) (be' : Nat → Int32), (∃ tb, be' = rf_c (-3) tb (rf_fx (fun m => rf_EN ba te m n) acc m).2) → le' = (rf_fx (fun m => rf_EN ba te m n) acc m).1 → wX_survey_58 post (wX_survey_22 post 1) (nI st) (nI mm) (nI n) le' (nI ct) ba bl te tr (rf_c (-3) t m) be' := by
      intro le' be' ⟨tb, e1⟩ e2
      subst e1 e2
      refine nm_r (nI_1 ct) (rx_step hn hm hc hW (fun m' z => by rw [hno] at z; cases z) (fun _ m' => nm_e (br_t rfl (h m' tb))))
    refine br_f (by decide) (br_f (nI_ge (b := 1000000) (by omega) (by decide)) (rx_energy_walk hn hW ?_))
    by_cases c : rf_EN ba te m n ≤ acc.1
    · have e : rf_fx (fun m => rf_EN ba te m n) acc m = (rf_EN ba te m n, m) := if_pos c
      refine br_f (Int32.not_lt.mpr c) (rx_copy ?_)
      exact step _ _ ⟨be, by rw [rf_cpy_e, e]⟩ (by rw [e])
    · have e : rf_fx (fun m => rf_EN ba te m n) acc m = acc := if_neg c
      exact br_t (Int32.not_le.mp c) (step _ _ (by rw [e]; exact hco.resolve_left c) (by rw [e]))
  | cons m2 l ih =>
    intro m acc st ct be hgo hWs hst hco h
    have hW := hWs m (List.mem_cons_self ..)
    have hlen : (m2 :: l).length = l.length + 1 := rfl
    obtain ⟨hno, hgo'⟩ := hgo
    have step : ∀ (le' : Int32) (be' : Nat → Int32), (∃ tb, be' = rf_c (-3) tb (rf_fx (fun m => rf_EN ba te m n) acc m).2) → le' = (rf_fx (fun m => rf_EN ba te m n) acc m).1 → wX_survey_58 post (wX_survey_22 post (l.length + 2)) (nI st) (nI mm) (nI n) le' (nI ct) ba bl te tr (rf_c (-3) t m) be' := by
      intro le' be' ⟨tb, e1⟩ e2
      subst e2
      refine nm_r (nI_1 ct) (rx_step hn hm hc hW (fun m' z => ?_) (fun z => by rw [hno] at z; cases z))
      rw [hno] at z
      have z' := Option.some.inj z
      subst z'
      refine nm_r (nI_1 st) (ih m2 (rf_fx (fun m => rf_EN ba te m n) acc m) (st + 1) (ct + 1) be' hgo' (fun x hx => hWs x (List.mem_cons_of_mem _ hx)) (by omega) (Or.inr ⟨tb, e1⟩) ?_)
      intro m' tb'
      have g := h m' tb'
      rw [hlen, show ct + (l.length + 1) + 1 = ct + 1 + l.length + 1 from by omega] at g
      exact g
    refine br_f (by decide) (br_f (nI_ge (b := 1000000) (by omega) (by decide)) (rx_energy_walk hn hW ?_))
    by_cases c : rf_EN ba te m n ≤ acc.1
    · have e : rf_fx (fun m => rf_EN ba te m n) acc m = (rf_EN ba te m n, m) := if_pos c
      refine br_f (Int32.not_lt.mpr c) (rx_copy ?_)
      exact step _ _ ⟨be, by rw [rf_cpy_e, e]⟩ (by rw [e])
    · have e : rf_fx (fun m => rf_EN ba te m n) acc m = acc := if_neg c
      exact br_t (Int32.not_le.mp c) (step _ _ (by rw [e]; exact hco.resolve_left c) (by rw [e]))
theorem rx_survey {post : SX → Prop} (hn : n ≤ 14) (hm : mm ≤ 4) (hm2 : 2 ≤ mm) (hc : ∀ i j, i < j → j < n → (cp i j ↔ rf_cp mm ba bl i j))
    (h : ∀ w tb, post (nI mm, nI n, ((rf_L n cp).foldl (rf_fx fun m => rf_EN ba te m n) (0, rf_0)).1, nI (rf_L n cp).length, ba, bl, te, tr, w, rf_c (-3) tb ((rf_L n cp).foldl (rf_fx fun m => rf_EN ba te m n) (0, rf_0)).2)) :
    wpX_survey post (nI mm, nI n, ls, tl, ba, bl, te, tr, wa, be) := by
  unfold wpX_survey
  refine rx_clear_walk ?_
  obtain ⟨l, hl⟩ := rf_L_h (n := n) (cp := cp)
  have hlen := rf_L_len (cp := cp) hn (fun p q h1 h2 h3 => by have := ((hc p q h1 h2).mp h3).1; omega)
  have hx := rf_L_x (n := n) (cp := cp)
  have hWs := rf_L_W (n := n) (cp := cp)
  rw [hl] at hlen hx hWs h
  have hll : (rf_0 :: l).length = l.length + 1 := rfl
  rw [hll] at hlen h
  refine ⟨l.length + 2, ?_⟩
  exact rx_survey_loop hn hm hc l rf_0 (0, rf_0) 0 0 be hx.2 hWs (by omega) (Or.inl (by rw [rf_EN_0]; decide)) (fun m' tb => by
    have g := h (rf_c (-3) wa m') tb
    rw [show 0 + l.length + 1 = l.length + 1 from by omega]
    exact g)
theorem rx_count_loop {post : Int32 → SX → Prop} {wt : Int32} (hn : n ≤ 14) (hm : mm ≤ 4) (hc : ∀ i j, i < j → j < n → (cp i j ↔ rf_cp mm ba bl i j)) :
    ∀ (l : List rf_M) (m : rf_M) (st ct : Nat), rf_go (rf_nx n (rf_ok n cp) n) (rf_nx n (rf_ok n cp) n m) l none → (∀ x, x ∈ m :: l → rf_W n x) →
    st + l.length < 1000000 →
    (∀ m', post (nI (ct + rf_k (fun m => rf_EN ba te m n = wt) (m :: l))) (nI mm, nI n, ls, tl, ba, bl, te, tr, rf_c (-3) t m', be)) →
    wX_countWithEnergy_15 post wt (l.length + 2) (nI ct) 1 (nI st) (nI mm) (nI n) ls tl ba bl te tr (rf_c (-3) t m) be := by
  intro l
  induction l with
  | nil =>
    intro m st ct hgo hWs hst h
    have hW := hWs m (List.mem_cons_self ..)
    have hno : rf_nx n (rf_ok n cp) n m = none := hgo
    have step : ∀ c' : Nat, c' = ct + rf_k (fun m => rf_EN ba te m n = wt) [m] → wX_countWithEnergy_45 post (wX_countWithEnergy_15 post wt 1) wt (nI c') (nI st) (nI mm) (nI n) ls tl ba bl te tr (rf_c (-3) t m) be := by
      intro c' e
      subst e
      exact rx_step hn hm hc hW (fun m' z => by rw [hno] at z; cases z) (fun _ m' => nm_e (br_t rfl (h m')))
    refine br_f (by decide) (br_f (nI_ge (b := 1000000) (by omega) (by decide)) (rx_energy_walk hn hW ?_))
    refine br_c (fun c => nm_r (nI_1 ct) (step (ct + 1) ?_)) (fun c => step ct ?_)
    · rw [rf_k_t (P := fun m => rf_EN ba te m n = wt) (m := m) c]; rfl
    · rw [rf_k_f (P := fun m => rf_EN ba te m n = wt) (m := m) c]; rfl
  | cons m2 l ih =>
    intro m st ct hgo hWs hst h
    have hW := hWs m (List.mem_cons_self ..)
    have hlen : (m2 :: l).length = l.length + 1 := rfl
    obtain ⟨hno, hgo'⟩ := hgo
    have step : ∀ c' : Nat, c' + rf_k (fun m => rf_EN ba te m n = wt) (m2 :: l) = ct + rf_k (fun m => rf_EN ba te m n = wt) (m :: m2 :: l) → wX_countWithEnergy_45 post (wX_countWithEnergy_15 post wt (l.length + 2)) wt (nI c') (nI st) (nI mm) (nI n) ls tl ba bl te tr (rf_c (-3) t m) be := by
      intro c' e
      refine rx_step hn hm hc hW (fun m' z => ?_) (fun z => by rw [hno] at z; cases z)
      rw [hno] at z
      have z' := Option.some.inj z
      subst z'
      refine nm_r (nI_1 st) (ih m2 (st + 1) c' hgo' (fun x hx => hWs x (List.mem_cons_of_mem _ hx)) (by omega) ?_)
      intro m'
      rw [e]; exact h m'
    refine br_f (by decide) (br_f (nI_ge (b := 1000000) (by omega) (by decide)) (rx_energy_walk hn hW ?_))
    refine br_c (fun c => nm_r (nI_1 ct) (step (ct + 1) ?_)) (fun c => step ct ?_)
    · rw [rf_k_t (P := fun m => rf_EN ba te m n = wt) (m := m) c]; omega
    · rw [rf_k_f (P := fun m => rf_EN ba te m n = wt) (m := m) c]
theorem rx_count {post : Int32 → SX → Prop} {wt : Int32} (hn : n ≤ 14) (hm : mm ≤ 4) (hm2 : 2 ≤ mm) (hc : ∀ i j, i < j → j < n → (cp i j ↔ rf_cp mm ba bl i j))
    (h : ∀ w, post (nI (rf_k (fun m => rf_EN ba te m n = wt) (rf_L n cp))) (nI mm, nI n, ls, tl, ba, bl, te, tr, w, be)) :
    wpX_countWithEnergy post (nI mm, nI n, ls, tl, ba, bl, te, tr, wa, be) wt := by
  unfold wpX_countWithEnergy
  refine rx_clear_walk ?_
  obtain ⟨l, hl⟩ := rf_L_h (n := n) (cp := cp)
  have hlen := rf_L_len (cp := cp) hn (fun p q h1 h2 h3 => by have := ((hc p q h1 h2).mp h3).1; omega)
  have hx := rf_L_x (n := n) (cp := cp)
  have hWs := rf_L_W (n := n) (cp := cp)
  rw [hl] at hlen hx hWs h
  have hll : (rf_0 :: l).length = l.length + 1 := rfl
  rw [hll] at hlen
  refine ⟨l.length + 2, ?_⟩
  exact rx_count_loop hn hm hc l rf_0 0 0 hx.2 hWs (by omega) (fun m' => by rw [Nat.zero_add]; exact h _)
theorem rx_pair_loop {post : Int32 → SX → Prop} {wt : Int32} {i j : Nat} (hn : n ≤ 14) (hm : mm ≤ 4) (hi : i < 14) (hj : j < 14) (hc : ∀ i j, i < j → j < n → (cp i j ↔ rf_cp mm ba bl i j)) :
    ∀ (l : List rf_M) (m : rf_M) (st ct : Nat), rf_go (rf_nx n (rf_ok n cp) n) (rf_nx n (rf_ok n cp) n m) l none → (∀ x, x ∈ m :: l → rf_W n x) →
    st + l.length < 1000000 →
    (∀ m', post (nI (ct + rf_k (fun m => m i = some j ∧ rf_EN ba te m n = wt) (m :: l))) (nI mm, nI n, ls, tl, ba, bl, te, tr, rf_c (-3) t m', be)) →
    wX_countWithPair_17 post wt (nI i) (nI j) (l.length + 2) (nI ct) 1 (nI st) (nI mm) (nI n) ls tl ba bl te tr (rf_c (-3) t m) be := by
  intro l
  have ci : (nI i).toNatClampNeg = i := nI_clamp (by omega)
  have rd : ∀ m, rf_W n m → (rf_c (-3) t m i = nI j ↔ m i = some j) := by
    intro m hW
    cases e : m i with
    | none => rw [rf_c_n hi e]; exact ⟨fun z => absurd z.symm (rf_zne rf_z3 (by omega)), fun z => by cases z⟩
    | some q =>
      have := (hW.1 i q e).2.1
      rw [rf_c_s hi e, nI_eq (by omega) (by omega)]
      exact ⟨fun z => by rw [z], fun z => Option.some.inj z⟩
  induction l with
  | nil =>
    intro m st ct hgo hWs hst h
    have hW := hWs m (List.mem_cons_self ..)
    have hno : rf_nx n (rf_ok n cp) n m = none := hgo
    have step : ∀ c' : Nat, c' = ct + rf_k (fun m => m i = some j ∧ rf_EN ba te m n = wt) [m] → wX_countWithPair_58 post (wX_countWithPair_17 post wt (nI i) (nI j) 1) wt (nI i) (nI j) (nI c') (nI st) (nI mm) (nI n) ls tl ba bl te tr (rf_c (-3) t m) be := by
      intro c' e
      subst e
      exact rx_step hn hm hc hW (fun m' z => by rw [hno] at z; cases z) (fun _ m' => nm_e (br_t rfl (h m')))
    refine br_f (by decide) (br_f (nI_ge (b := 1000000) (by omega) (by decide)) ⟨vp_in_nI hi (by omega), ?_⟩)
    rw [ci]
    refine br_c (fun c => rx_energy_walk hn hW ?_) (fun c => step ct ?_)
    · refine br_c (fun c2 => nm_r (nI_1 ct) (step (ct + 1) ?_)) (fun c2 => step ct ?_)
      · rw [rf_k_t (P := fun m => m i = some j ∧ rf_EN ba te m n = wt) (m := m) ⟨(rd m hW).mp c, c2⟩]; rfl
      · rw [rf_k_f (P := fun m => m i = some j ∧ rf_EN ba te m n = wt) (m := m) (fun z => c2 z.2)]; rfl
    · rw [rf_k_f (P := fun m => m i = some j ∧ rf_EN ba te m n = wt) (m := m) (fun z => c ((rd m hW).mpr z.1))]; rfl
  | cons m2 l ih =>
    intro m st ct hgo hWs hst h
    have hW := hWs m (List.mem_cons_self ..)
    have hlen : (m2 :: l).length = l.length + 1 := rfl
    obtain ⟨hno, hgo'⟩ := hgo
    have step : ∀ c' : Nat, c' + rf_k (fun m => m i = some j ∧ rf_EN ba te m n = wt) (m2 :: l) = ct + rf_k (fun m => m i = some j ∧ rf_EN ba te m n = wt) (m :: m2 :: l) → wX_countWithPair_58 post (wX_countWithPair_17 post wt (nI i) (nI j) (l.length + 2)) wt (nI i) (nI j) (nI c') (nI st) (nI mm) (nI n) ls tl ba bl te tr (rf_c (-3) t m) be := by
      intro c' e
      refine rx_step hn hm hc hW (fun m' z => ?_) (fun z => by rw [hno] at z; cases z)
      rw [hno] at z
      have z' := Option.some.inj z
      subst z'
      refine nm_r (nI_1 st) (ih m2 (st + 1) c' hgo' (fun x hx => hWs x (List.mem_cons_of_mem _ hx)) (by omega) ?_)
      intro m'
      rw [e]; exact h m'
    refine br_f (by decide) (br_f (nI_ge (b := 1000000) (by omega) (by decide)) ⟨vp_in_nI hi (by omega), ?_⟩)
    rw [ci]
    refine br_c (fun c => rx_energy_walk hn hW ?_) (fun c => step ct ?_)
    · refine br_c (fun c2 => nm_r (nI_1 ct) (step (ct + 1) ?_)) (fun c2 => step ct ?_)
      · rw [rf_k_t (P := fun m => m i = some j ∧ rf_EN ba te m n = wt) (m := m) ⟨(rd m hW).mp c, c2⟩]; omega
      · rw [rf_k_f (P := fun m => m i = some j ∧ rf_EN ba te m n = wt) (m := m) (fun z => c2 z.2)]
    · rw [rf_k_f (P := fun m => m i = some j ∧ rf_EN ba te m n = wt) (m := m) (fun z => c ((rd m hW).mpr z.1))]
theorem rx_pair {post : Int32 → SX → Prop} {wt : Int32} {i j : Nat} (hn : n ≤ 14) (hm : mm ≤ 4) (hm2 : 2 ≤ mm) (hi : i < 14) (hj : j < 14) (hc : ∀ i j, i < j → j < n → (cp i j ↔ rf_cp mm ba bl i j))
    (h : ∀ w, post (nI (rf_k (fun m => m i = some j ∧ rf_EN ba te m n = wt) (rf_L n cp))) (nI mm, nI n, ls, tl, ba, bl, te, tr, w, be)) :
    wpX_countWithPair post (nI mm, nI n, ls, tl, ba, bl, te, tr, wa, be) wt (nI i) (nI j) := by
  unfold wpX_countWithPair
  refine rx_clear_walk ?_
  obtain ⟨l, hl⟩ := rf_L_h (n := n) (cp := cp)
  have hlen := rf_L_len (cp := cp) hn (fun p q h1 h2 h3 => by have := ((hc p q h1 h2).mp h3).1; omega)
  have hx := rf_L_x (n := n) (cp := cp)
  have hWs := rf_L_W (n := n) (cp := cp)
  rw [hl] at hlen hx hWs h
  have hll : (rf_0 :: l).length = l.length + 1 := rfl
  rw [hll] at hlen
  refine ⟨l.length + 2, ?_⟩
  exact rx_pair_loop hn hm hi hj hc l rf_0 0 0 hx.2 hWs (by omega) (fun m' => by rw [Nat.zero_add]; exact h _)
end
