/-! Y: the walk through all structures -/
theorem rf_up_ok {ok : Nat → Prop} : ∀ (k q r : Nat), rf_up ok k q = some r → ok r := by
  intro k
  induction k with
  | zero => intro q r h; cases h
  | succ k ih =>
    intro q r h
    simp only [rf_up] at h
    by_cases o : ok q
    · rw [if_pos (rf_dt o)] at h; cases h; exact o
    · rw [if_neg (rf_df o)] at h; exact ih _ _ h
theorem rf_pu_W {n : Nat} {cp : Nat → Nat → Prop} {m : rf_M} {p q : Nat} (hW : rf_W n m) : rf_W n (rf_pu n (rf_ok n cp) m p q) := by
  unfold rf_pu
  cases e : rf_up (rf_ok n cp m p) (n - q) q with
  | none => exact hW
  | some r =>
    have o := rf_up_ok _ _ _ e
    exact rf_Wj hW o.1 o.2.1 o.2.2.2
section
variable {mn sz ls : Int32} {ba bl te tr ma be t : Nat → Int32} {n mm : Nat} {m : rf_M} {cp : Nat → Nat → Prop}
theorem ry_pairUp {post : Int32 → SY → Prop} {p q : Nat} (hn : n ≤ 14) (hm : mm ≤ 4) (hc : ∀ i j, i < j → j < n → (cp i j ↔ rf_cp mm ba bl i j)) (hW : rf_W n m) (hp : p < n) (hq : q ≤ n)
    (h : ∀ r, post r (ls, nI mm, nI n, ba, bl, te, tr, rf_c (-1) t (rf_pu n (rf_ok n cp) m p q), be)) : wpY_pairUp post (ls, nI mm, nI n, ba, bl, te, tr, rf_c (-1) t m, be) (nI p) (nI q) := by
  unfold wpY_pairUp
  have key : ∀ d q, q + d = n → (∀ r, post r (ls, nI mm, nI n, ba, bl, te, tr, rf_c (-1) t (rf_pu n (rf_ok n cp) m p q), be)) → wY_pairUp_2 post (nI p) ls (nI mm) (nI n) ba bl te tr (rf_c (-1) t m) be (d + 1) (nI q) := by
    intro d
    induction d with
    | zero =>
      intro q hq h
      rw [rf_pu_n (by omega)] at h
      exact br_t (nI_le (by omega) (by omega)) (h 0)
    | succ d ih =>
      intro q hq h
      have no : ¬ rf_ok n cp m p q → wY_pairUp_2 post (nI p) ls (nI mm) (nI n) ba bl te tr (rf_c (-1) t m) be (d + 1) (nI (q + 1)) := fun z => by
        rw [rf_pu_f z (by omega)] at h
        exact ih (q + 1) (by omega) h
      refine br_f (nI_ge (by omega) (by omega)) ?_
      refine ry_canPair hn hm (fun i j e1 e2 h3 h4 h5 => ?_) (fun hno => ?_)
      · refine br_f (by decide) ?_
        have e1' := (nI_eq (by omega) (by omega)).mp e1
        have e2' := (nI_eq (by omega) (by omega)).mp e2
        subst e1' e2'
        refine ry_fits hn h3 h4 hW (fun f => ?_) (fun f => ?_)
        · rw [rf_pu_t (show rf_ok n cp m p q from ⟨h3, h4, (hc _ _ h3 h4).mpr h5, f⟩) h4] at h
          have c1 : (nI p).toNatClampNeg = p := nI_clamp (by omega)
          have c2 : (nI q).toNatClampNeg = q := nI_clamp (by omega)
          refine br_f (by decide) ⟨vp_in_nI (by omega) (by omega), nm_e ⟨vp_in_nI (by omega) (by omega), nm_r (by rw [c1, c2, rf_c_j (by omega) (by omega)]) (h 1)⟩⟩
        · exact br_t rfl (nm_r (nI_1 q) (no fun z => f z.2.2.2))
      · exact br_t rfl (nm_r (nI_1 q) (no fun z => hno p q rfl rfl z.1 z.2.1 ((hc _ _ z.1 z.2.1).mp z.2.2.1)))
  exact ⟨_, key (n - q) q (by omega) h⟩
theorem ry_fill {post : SY → Prop} {p : Nat} (hn : n ≤ 14) (hm : mm ≤ 4) (hc : ∀ i j, i < j → j < n → (cp i j ↔ rf_cp mm ba bl i j)) (hW : rf_W n m) (hp : p ≤ n)
    (h : post (ls, nI mm, nI n, ba, bl, te, tr, rf_c (-1) t (rf_fl n (rf_ok n cp) (n - p) p m), be)) : wpY_fill post (ls, nI mm, nI n, ba, bl, te, tr, rf_c (-1) t m, be) (nI p) := by
  unfold wpY_fill
  have key : ∀ d p m, p + d = n → rf_W n m → post (ls, nI mm, nI n, ba, bl, te, tr, rf_c (-1) t (rf_fl n (rf_ok n cp) d p m), be) → wY_fill_2 post (d + 1) (nI p) ls (nI mm) (nI n) ba bl te tr (rf_c (-1) t m) be := by
    intro d
    induction d with
    | zero =>
      intro p m hp hW h
      exact br_t (nI_le (by omega) (by omega)) h
    | succ d ih =>
      intro p m hp hW h
      have c1 : (nI p).toNatClampNeg = p := nI_clamp (by omega)
      refine br_f (nI_ge (by omega) (by omega)) ⟨vp_in_nI (by omega) (by omega), ?_⟩
      rw [c1]
      cases hmp : m p with
      | some q =>
        have hq := (hW.1 p q hmp).2.1
        rw [rf_fl_s hmp] at h
        rw [rf_c_s (by omega) hmp]
        exact br_t (nI_pos' (by omega)) (nm_r (nI_1 p) (ih (p + 1) m (by omega) hW h))
      | none =>
        rw [rf_fl_n hmp] at h
        refine br_f (by rw [rf_c_n (by omega) hmp]; decide) ?_
        rw [nI_1 p]
        exact ry_pairUp hn hm hc hW (by omega) (by omega) (fun r => nm_e (ih (p + 1) _ (by omega) (rf_pu_W hW) h))
  exact ⟨_, key (n - p) p m (by omega) hW h⟩
theorem ry_first {post : SY → Prop} (hn : n ≤ 14) (hm : mm ≤ 4) (hc : ∀ i j, i < j → j < n → (cp i j ↔ rf_cp mm ba bl i j))
    (h : post (ls, nI mm, nI n, ba, bl, te, tr, rf_c (-1) ma (rf_fl n (rf_ok n cp) n 0 rf_0), be)) : wpY_toFirst post (ls, nI mm, nI n, ba, bl, te, tr, ma, be) := by
  unfold wpY_toFirst
  have key : ∀ d i, i + d = 14 → wY_toFirst_2 post ls (nI mm) (nI n) (d + 1) (nI i) ba bl te tr (rf_ini (-1) ma i) be := by
    intro d
    induction d with
    | zero =>
      intro i hi
      have e : i = 14 := by omega
      subst e
      refine br_t (by decide) ?_
      rw [rf_ini_e]
      exact ry_fill (p := 0) hn hm hc (rf_W0 n) (by omega) h
    | succ d ih =>
      intro i hi
      have ci : (nI i).toNatClampNeg = i := nI_clamp (by omega)
      have vi : vp_in (nI i) 14 := vp_in_nI (by omega) (by omega)
      refine br_f (nI_ge (b := 14) (by omega) (by decide)) ⟨vi, nm_r (by rw [ci, rf_ini_s]) (nm_r (nI_1 i) (ih (i + 1) (by omega)))⟩
  refine ⟨15, ?_⟩
  have g := key 14 0 rfl
  rw [rf_ini_0] at g
  exact g
theorem ry_step {post : Int32 → SY → Prop} (hn : n ≤ 14) (hm : mm ≤ 4) (hc : ∀ i j, i < j → j < n → (cp i j ↔ rf_cp mm ba bl i j)) (hW : rf_W n m)
    (h1 : ∀ m', rf_ny n (rf_ok n cp) n m = some m' → post 1 (ls, nI mm, nI n, ba, bl, te, tr, rf_c (-1) t m', be))
    (h0 : rf_ny n (rf_ok n cp) n m = none → post 0 (ls, nI mm, nI n, ba, bl, te, tr, rf_c (-1) t m, be)) : wpY_toNext post (ls, nI mm, nI n, ba, bl, te, tr, rf_c (-1) t m, be) := by
  unfold wpY_toNext
  have key : ∀ p, p ≤ n → (∀ m', rf_ny n (rf_ok n cp) p m = some m' → post 1 (ls, nI mm, nI n, ba, bl, te, tr, rf_c (-1) t m', be)) →
      (rf_ny n (rf_ok n cp) p m = none → post 0 (ls, nI mm, nI n, ba, bl, te, tr, rf_c (-1) t m, be)) → wY_toNext_7 post ls (nI mm) (nI n) ba bl te tr (rf_c (-1) t m) be (p + 1) (nI p + (-1)) := by
    intro p
    induction p with
    | zero =>
      intro hp h1 h0
      exact br_t (by decide) (h0 rfl)
    | succ p ih =>
      intro hp h1 h0
      rw [pk_m1]
      have c1 : (nI p).toNatClampNeg = p := nI_clamp (by omega)
      refine br_f (nI_pos (by omega)) ⟨vp_in_nI (by omega) (by omega), ?_⟩
      rw [c1]
      cases hmp : m p with
      | none =>
        rw [rf_ny_n hmp] at h1 h0
        exact nm_r (rf_c_n (by omega) hmp) (br_t (rf_zle rf_z1 (by omega)) (nm_e (ih (by omega) h1 h0)))
      | some q =>
        have hq := (hW.1 p q hmp).2.1
        refine nm_r (rf_c_s (by omega) hmp) (pk_le q p (fun c => ?_) (fun c => ?_))
        · rw [rf_ny_d hmp (by omega)] at h1 h0
          exact nm_e (ih (by omega) h1 h0)
        · have c2 : (nI q).toNatClampNeg = q := nI_clamp (by omega)
          refine ⟨vp_in_nI (by omega) (by omega), nm_e ⟨vp_in_nI (by omega) (by omega), nm_r (by rw [c2, rf_c_p (by omega) (by omega)]) ?_⟩⟩
          rw [nI_1 q, nI_1 p]
          have g := h1 _ (rf_ny_u hmp c)
          exact ry_pairUp hn hm hc (rf_Ws hW hmp) (by omega) (by omega) (fun r => ry_fill hn hm hc (rf_pu_W (rf_Ws hW hmp)) (by omega) g)
  exact nm_r (rf_sm1 n) ⟨_, key n (Nat.le_refl n) h1 h0⟩
theorem ry_search_loop {post : SY → Prop} (hn : n ≤ 14) (hm : mm ≤ 4) (hc : ∀ i j, i < j → j < n → (cp i j ↔ rf_cp mm ba bl i j)) :
    ∀ (l : List rf_M) (m : rf_M) (acc : Int32 × rf_M) (st : Nat) (be : Nat → Int32), rf_go (rf_ny n (rf_ok n cp) n) (rf_ny n (rf_ok n cp) n m) l none → (∀ x, x ∈ m :: l → rf_W n x) →
    st + l.length < 20000 → (acc.1 = 1000000 ∨ ∃ tb, be = rf_c (-1) tb acc.2) →
    (∀ m' be', (((m :: l).foldl (rf_fy fun m => rf_EN ba te m n) acc).1 = 1000000 ∨ ∃ tb, be' = rf_c (-1) tb ((m :: l).foldl (rf_fy fun m => rf_EN ba te m n) acc).2) → post (((m :: l).foldl (rf_fy fun m => rf_EN ba te m n) acc).1, nI mm, nI n, ba, bl, te, tr, rf_c (-1) t m', be')) →
    wY_search_14 post (l.length + 2) 1 (nI st) acc.1 (nI mm) (nI n) ba bl te tr (rf_c (-1) t m) be := by
  intro l
  induction l with
  | nil =>
    intro m acc st be hgo hWs hst hco h
    have hW := hWs m (List.mem_cons_self ..)
    have hno : rf_ny n (rf_ok n cp) n m = none := hgo
    have step : ∀ (le' : Int32) (be' : Nat → Int32), ((rf_fy (fun m => rf_EN ba te m n) acc m).1 = 1000000 ∨ ∃ tb, be' = rf_c (-1) tb (rf_fy (fun m => rf_EN ba te m n) acc m).2) → le' = (rf_fy (fun m => rf_EN ba te m n) acc m).1 → wY_search_73 post (wY_search_14 post 1) (nI st) le' (nI mm) (nI n) ba bl te tr (rf_c (-1) t m) be' := by
      intro le' be' e1 e2
      subst e2
      refine ry_step hn hm hc hW (fun m' z => by rw [hno] at z; cases z) (fun _ => nm_r (nI_1 st) ?_)
      exact pk_le 20000 (st + 1) (fun _ => h m be' e1) (fun _ => br_t rfl (h m be' e1)) (by decide)
    refine br_f (nI_ge (b := 20000) (by omega) (by decide)) (br_f (by decide) (ry_energy hn hW ?_))
    by_cases c : rf_EN ba te m n < acc.1
    · have e : rf_fy (fun m => rf_EN ba te m n) acc m = (rf_EN ba te m n, m) := if_pos c
      refine br_f (Int32.not_le.mpr c) ?_
      have key : ∀ d i, i + d = 14 → wY_search_46 post (wY_search_14 post 1) (nI st) (rf_EN ba te m n) (nI mm) (nI n) (d + 1) (nI i) ba bl te tr (rf_c (-1) t m) (rf_cpy (rf_c (-1) t m) be i) := by
        intro d
        induction d with
        | zero =>
          intro i hi
          have e14 : i = 14 := by omega
          subst e14
          refine br_t (by decide) ?_
          exact step _ _ (Or.inr ⟨be, by rw [rf_cpy_e, e]⟩) (by rw [e])
        | succ d ih =>
          intro i hi
          have ci : (nI i).toNatClampNeg = i := nI_clamp (by omega)
          have vi : vp_in (nI i) 14 := vp_in_nI (by omega) (by omega)
          refine br_f (nI_ge (b := 14) (by omega) (by decide)) ⟨vi, vi, nm_r (by rw [ci, rf_cpy_s]) (nm_r (nI_1 i) (ih (i + 1) (by omega)))⟩
      refine ⟨15, ?_⟩
      have g := key 14 0 rfl
      rw [rf_cpy_0] at g
      exact g
    · have e : rf_fy (fun m => rf_EN ba te m n) acc m = acc := if_neg c
      exact br_t (Int32.not_lt.mp c) (step _ _ (by rw [e]; exact hco) (by rw [e]))
  | cons m2 l ih =>
    intro m acc st be hgo hWs hst hco h
    have hW := hWs m (List.mem_cons_self ..)
    have hlen : (m2 :: l).length = l.length + 1 := rfl
    obtain ⟨hno, hgo'⟩ := hgo
    have step : ∀ (le' : Int32) (be' : Nat → Int32), ((rf_fy (fun m => rf_EN ba te m n) acc m).1 = 1000000 ∨ ∃ tb, be' = rf_c (-1) tb (rf_fy (fun m => rf_EN ba te m n) acc m).2) → le' = (rf_fy (fun m => rf_EN ba te m n) acc m).1 → wY_search_73 post (wY_search_14 post (l.length + 2)) (nI st) le' (nI mm) (nI n) ba bl te tr (rf_c (-1) t m) be' := by
      intro le' be' e1 e2
      subst e2
      refine ry_step hn hm hc hW (fun m' z => ?_) (fun z => by rw [hno] at z; cases z)
      rw [hno] at z
      have z' := Option.some.inj z
      subst z'
      exact nm_r (nI_1 st) (ih m2 (rf_fy (fun m => rf_EN ba te m n) acc m) (st + 1) be' hgo' (fun x hx => hWs x (List.mem_cons_of_mem _ hx)) (by omega) e1 h)
    refine br_f (nI_ge (b := 20000) (by omega) (by decide)) (br_f (by decide) (ry_energy hn hW ?_))
    by_cases c : rf_EN ba te m n < acc.1
    · have e : rf_fy (fun m => rf_EN ba te m n) acc m = (rf_EN ba te m n, m) := if_pos c
      refine br_f (Int32.not_le.mpr c) ?_
      have key : ∀ d i, i + d = 14 → wY_search_46 post (wY_search_14 post (l.length + 2)) (nI st) (rf_EN ba te m n) (nI mm) (nI n) (d + 1) (nI i) ba bl te tr (rf_c (-1) t m) (rf_cpy (rf_c (-1) t m) be i) := by
        intro d
        induction d with
        | zero =>
          intro i hi
          have e14 : i = 14 := by omega
          subst e14
          refine br_t (by decide) ?_
          exact step _ _ (Or.inr ⟨be, by rw [rf_cpy_e, e]⟩) (by rw [e])
        | succ d ih =>
          intro i hi
          have ci : (nI i).toNatClampNeg = i := nI_clamp (by omega)
          have vi : vp_in (nI i) 14 := vp_in_nI (by omega) (by omega)
          refine br_f (nI_ge (b := 14) (by omega) (by decide)) ⟨vi, vi, nm_r (by rw [ci, rf_cpy_s]) (nm_r (nI_1 i) (ih (i + 1) (by omega)))⟩
      refine ⟨15, ?_⟩
      have g := key 14 0 rfl
      rw [rf_cpy_0] at g
      exact g
    · have e : rf_fy (fun m => rf_EN ba te m n) acc m = acc := if_neg c
      exact br_t (Int32.not_lt.mp c) (step _ _ (by rw [e]; exact hco) (by rw [e]))
/-- Y's list: the reverse of X's -/
theorem rf_rev {n : Nat} {cp : Nat → Nat → Prop} : ∃ m l, (rf_L n cp).reverse = m :: l ∧ m = rf_fl n (rf_ok n cp) n 0 rf_0 ∧ rf_go (rf_ny n (rf_ok n cp) n) (rf_ny n (rf_ok n cp) n m) l none ∧ (∀ x, x ∈ m :: l → rf_W n x) ∧ l.length + 1 = (rf_L n cp).length := by
  have hy := rf_L_y (n := n) (cp := cp)
  have hW := rf_L_W (n := n) (cp := cp)
  have hl : (rf_L n cp).reverse.length = (rf_L n cp).length := List.length_reverse
  cases e : (rf_L n cp).reverse with
  | nil =>
    rw [e] at hy
    have hy' : some (rf_fl n (rf_ok n cp) n 0 rf_0) = none := hy
    cases hy'
  | cons m l =>
    rw [e] at hy hl
    refine ⟨m, l, rfl, (Option.some.inj hy.1).symm, hy.2, fun x hx => hW x ?_, hl⟩
    rw [← e] at hx
    exact List.mem_reverse.mp hx
theorem ry_search {post : SY → Prop} (hn : n ≤ 14) (hm : mm ≤ 4) (hm2 : 2 ≤ mm) (hc : ∀ i j, i < j → j < n → (cp i j ↔ rf_cp mm ba bl i j))
    (h : ∀ w tb, post (((rf_L n cp).reverse.foldl (rf_fy fun m => rf_EN ba te m n) (1000000, rf_0)).1, nI mm, nI n, ba, bl, te, tr, w, rf_c (-1) tb ((rf_L n cp).reverse.foldl (rf_fy fun m => rf_EN ba te m n) (1000000, rf_0)).2)) :
    wpY_search post (ls, nI mm, nI n, ba, bl, te, tr, ma, be) := by
  unfold wpY_search
  refine ry_first hn hm hc ?_
  have hlen := rf_L_len (cp := cp) hn (fun p q h1 h2 h3 => by have := ((hc p q h1 h2).mp h3).1; omega)
  obtain ⟨l0, hl0⟩ := rf_L_h (n := n) (cp := cp)
  have hle : ((rf_L n cp).reverse.foldl (rf_fy fun m => rf_EN ba te m n) (1000000, rf_0)).1 ≤ 0 := by
    rw [hl0]; exact rf_best_0 (rf_EN_0 ba te n)
  obtain ⟨m, l, e, em, hgo, hWs, hll⟩ := rf_rev (n := n) (cp := cp)
  rw [← em]
  rw [e] at h hle
  refine ⟨l.length + 2, ?_⟩
  refine ry_search_loop hn hm hc l m (1000000, rf_0) 0 be hgo hWs (by omega) (Or.inl rfl) (fun m' be' hb => ?_)
  rcases hb with hb | ⟨tb, hb⟩
  · rw [hb] at hle; exact absurd hle (by decide)
  · rw [hb]; exact h _ tb
theorem ry_count_loop {post : Int32 → SY → Prop} {wt x y : Int32} {P : rf_M → Prop} (hn : n ≤ 14) (hm : mm ≤ 4) (hc : ∀ i j, i < j → j < n → (cp i j ↔ rf_cp mm ba bl i j))
    (hx : ¬ x < 0 → vp_in x 14) (hP : ∀ m, rf_W n m → (P m ↔ (x < 0 ∨ rf_c (-1) t m x.toNatClampNeg = y) ∧ rf_EN ba te m n = wt)) :
    ∀ (l : List rf_M) (m : rf_M) (st ct : Nat), rf_go (rf_ny n (rf_ok n cp) n) (rf_ny n (rf_ok n cp) n m) l none → (∀ x, x ∈ m :: l → rf_W n x) →
    st + l.length < 20000 →
    (∀ m', post (nI (ct + rf_k P (m :: l))) (ls, nI mm, nI n, ba, bl, te, tr, rf_c (-1) t m', be)) →
    wY_countOf_13 post wt x y (l.length + 2) (nI ct) 1 (nI st) ls (nI mm) (nI n) ba bl te tr (rf_c (-1) t m) be := by
  intro l
  induction l with
  | nil =>
    intro m st ct hgo hWs hst h
    have hW := hWs m (List.mem_cons_self ..)
    have hno : rf_ny n (rf_ok n cp) n m = none := hgo
    have step : ∀ c' : Nat, c' = ct + rf_k P [m] → wY_countOf_51 post (wY_countOf_13 post wt x y 1) wt x y (nI c') (nI st) ls (nI mm) (nI n) ba bl te tr (rf_c (-1) t m) be := by
      intro c' e
      subst e
      refine ry_step hn hm hc hW (fun m' z => by rw [hno] at z; cases z) (fun _ => nm_r (nI_1 st) ?_)
      exact pk_le 20000 (st + 1) (fun _ => h m) (fun _ => br_t rfl (h m)) (by decide)
    have st40 : (x < 0 ∨ rf_c (-1) t m x.toNatClampNeg = y) → wY_countOf_40 post (wY_countOf_13 post wt x y 1) wt x y (nI ct) (nI st) ls (nI mm) (nI n) ba bl te tr (rf_c (-1) t m) be := by
      intro hxy
      refine ry_energy hn hW (br_c (fun c => nm_r (nI_1 ct) (step (ct + 1) ?_)) (fun c => step ct ?_))
      · rw [rf_k_t ((hP m hW).mpr ⟨hxy, c⟩)]; rfl
      · rw [rf_k_f (fun z => c ((hP m hW).mp z).2)]; rfl
    refine br_f (nI_ge (b := 20000) (by omega) (by decide)) (br_f (by decide) (br_c (fun c => st40 (Or.inl c)) (fun c => ⟨hx c, br_c (fun c2 => st40 (Or.inr c2)) (fun c2 => step ct ?_)⟩)))
    rw [rf_k_f (fun z => ((hP m hW).mp z).1.elim c c2)]; rfl
  | cons m2 l ih =>
    intro m st ct hgo hWs hst h
    have hW := hWs m (List.mem_cons_self ..)
    have hlen : (m2 :: l).length = l.length + 1 := rfl
    obtain ⟨hno, hgo'⟩ := hgo
    have step : ∀ c' : Nat, c' + rf_k P (m2 :: l) = ct + rf_k P (m :: m2 :: l) → wY_countOf_51 post (wY_countOf_13 post wt x y (l.length + 2)) wt x y (nI c') (nI st) ls (nI mm) (nI n) ba bl te tr (rf_c (-1) t m) be := by
      intro c' e
      refine ry_step hn hm hc hW (fun m' z => ?_) (fun z => by rw [hno] at z; cases z)
      rw [hno] at z
      have z' := Option.some.inj z
      subst z'
      refine nm_r (nI_1 st) (ih m2 (st + 1) c' hgo' (fun x hx => hWs x (List.mem_cons_of_mem _ hx)) (by omega) ?_)
      intro m'
      rw [e]; exact h m'
    have st40 : (x < 0 ∨ rf_c (-1) t m x.toNatClampNeg = y) → wY_countOf_40 post (wY_countOf_13 post wt x y (l.length + 2)) wt x y (nI ct) (nI st) ls (nI mm) (nI n) ba bl te tr (rf_c (-1) t m) be := by
      intro hxy
      refine ry_energy hn hW (br_c (fun c => nm_r (nI_1 ct) (step (ct + 1) ?_)) (fun c => step ct ?_))
      · rw [rf_k_t (m := m) ((hP m hW).mpr ⟨hxy, c⟩)]; omega
      · rw [rf_k_f (m := m) (fun z => c ((hP m hW).mp z).2)]
    refine br_f (nI_ge (b := 20000) (by omega) (by decide)) (br_f (by decide) (br_c (fun c => st40 (Or.inl c)) (fun c => ⟨hx c, br_c (fun c2 => st40 (Or.inr c2)) (fun c2 => step ct ?_)⟩)))
    rw [rf_k_f (m := m) (fun z => ((hP m hW).mp z).1.elim c c2)]
theorem ry_count {post : Int32 → SY → Prop} {wt : Int32} (hn : n ≤ 14) (hm : mm ≤ 4) (hm2 : 2 ≤ mm) (hc : ∀ i j, i < j → j < n → (cp i j ↔ rf_cp mm ba bl i j))
    (h : ∀ w, post (nI (rf_k (fun m => rf_EN ba te m n = wt) (rf_L n cp))) (ls, nI mm, nI n, ba, bl, te, tr, w, be)) :
    wpY_countOf post (ls, nI mm, nI n, ba, bl, te, tr, ma, be) wt (-1) (-1) := by
  unfold wpY_countOf
  refine ry_first hn hm hc ?_
  have hlen := rf_L_len (cp := cp) hn (fun p q h1 h2 h3 => by have := ((hc p q h1 h2).mp h3).1; omega)
  obtain ⟨m, l, e, em, hgo, hWs, hll⟩ := rf_rev (n := n) (cp := cp)
  rw [← em]
  rw [← rf_k_rev, e] at h
  refine ⟨l.length + 2, ?_⟩
  exact ry_count_loop (P := fun m => rf_EN ba te m n = wt) hn hm hc (fun z => absurd (by decide) z) (fun m _ => ⟨fun z => ⟨Or.inl (by decide), z⟩, fun z => z.2⟩) l m 0 0 hgo hWs (by omega) (fun m' => by rw [Nat.zero_add]; exact h _)
theorem ry_pair {post : Int32 → SY → Prop} {wt : Int32} {i j : Nat} (hn : n ≤ 14) (hm : mm ≤ 4) (hm2 : 2 ≤ mm) (hi : i < 14) (hj : j < 14) (hc : ∀ i j, i < j → j < n → (cp i j ↔ rf_cp mm ba bl i j))
    (h : ∀ w, post (nI (rf_k (fun m => m i = some j ∧ rf_EN ba te m n = wt) (rf_L n cp))) (ls, nI mm, nI n, ba, bl, te, tr, w, be)) :
    wpY_countOf post (ls, nI mm, nI n, ba, bl, te, tr, ma, be) wt (nI i) (nI j) := by
  unfold wpY_countOf
  refine ry_first hn hm hc ?_
  have hlen := rf_L_len (cp := cp) hn (fun p q h1 h2 h3 => by have := ((hc p q h1 h2).mp h3).1; omega)
  obtain ⟨m, l, e, em, hgo, hWs, hll⟩ := rf_rev (n := n) (cp := cp)
  rw [← em]
  rw [← rf_k_rev, e] at h
  refine ⟨l.length + 2, ?_⟩
  have ci : (nI i).toNatClampNeg = i := nI_clamp (by omega)
  have rd : ∀ m, rf_W n m → (rf_c (-1) ma m i = nI j ↔ m i = some j) := by
    intro m hW
    cases e : m i with
    | none => rw [rf_c_n hi e]; exact ⟨fun z => absurd z.symm (rf_zne rf_z1 (by omega)), fun z => by cases z⟩
    | some q =>
      have := (hW.1 i q e).2.1
      rw [rf_c_s hi e, nI_eq (by omega) (by omega)]
      exact ⟨fun z => by rw [z], fun z => Option.some.inj z⟩
  exact ry_count_loop (P := fun m => m i = some j ∧ rf_EN ba te m n = wt) hn hm hc (fun _ => vp_in_nI hi (by omega))
    (fun m hW => ⟨fun z => ⟨Or.inr (by rw [ci]; exact (rd m hW).mpr z.1), z.2⟩, fun z => ⟨z.1.elim (fun y => absurd y (nI_pos (by omega))) (fun y => by rw [ci] at y; exact (rd m hW).mp y), z.2⟩⟩)
    l m 0 0 hgo hWs (by omega) (fun m' => by rw [Nat.zero_add]; exact h _)
theorem ry_structs_loop {post : Int32 → SY → Prop} (hn : n ≤ 14) (hm : mm ≤ 4) (hc : ∀ i j, i < j → j < n → (cp i j ↔ rf_cp mm ba bl i j)) :
    ∀ (l : List rf_M) (m : rf_M) (st ct : Nat), rf_go (rf_ny n (rf_ok n cp) n) (rf_ny n (rf_ok n cp) n m) l none → (∀ x, x ∈ m :: l → rf_W n x) →
    st + l.length < 20000 →
    (∀ m', post (nI (ct + l.length + 1)) (ls, nI mm, nI n, ba, bl, te, tr, rf_c (-1) t m', be)) →
    wY_structures_10 post (l.length + 2) (nI ct) 1 (nI st) ls (nI mm) (nI n) ba bl te tr (rf_c (-1) t m) be := by
  intro l
  induction l with
  | nil =>
    intro m st ct hgo hWs hst h
    have hW := hWs m (List.mem_cons_self ..)
    have hno : rf_ny n (rf_ok n cp) n m = none := hgo
    refine br_f (nI_ge (b := 20000) (by omega) (by decide)) (br_f (by decide) (nm_r (nI_1 ct) ?_))
    refine ry_step hn hm hc hW (fun m' z => by rw [hno] at z; cases z) (fun _ => nm_r (nI_1 st) ?_)
    exact pk_le 20000 (st + 1) (fun _ => h m) (fun _ => br_t rfl (h m)) (by decide)
  | cons m2 l ih =>
    intro m st ct hgo hWs hst h
    have hW := hWs m (List.mem_cons_self ..)
    have hlen : (m2 :: l).length = l.length + 1 := rfl
    obtain ⟨hno, hgo'⟩ := hgo
    refine br_f (nI_ge (b := 20000) (by omega) (by decide)) (br_f (by decide) (nm_r (nI_1 ct) ?_))
    refine ry_step hn hm hc hW (fun m' z => ?_) (fun z => by rw [hno] at z; cases z)
    rw [hno] at z
    have z' := Option.some.inj z
    subst z'
    refine nm_r (nI_1 st) (ih m2 (st + 1) (ct + 1) hgo' (fun x hx => hWs x (List.mem_cons_of_mem _ hx)) (by omega) ?_)
    intro m'
    have g := h m'
    rw [hlen, show ct + (l.length + 1) + 1 = ct + 1 + l.length + 1 from by omega] at g
    exact g
theorem ry_structs {post : Int32 → SY → Prop} (hn : n ≤ 14) (hm : mm ≤ 4) (hm2 : 2 ≤ mm) (hc : ∀ i j, i < j → j < n → (cp i j ↔ rf_cp mm ba bl i j))
    (h : ∀ w, post (nI (rf_L n cp).length) (ls, nI mm, nI n, ba, bl, te, tr, w, be)) :
    wpY_structures post (ls, nI mm, nI n, ba, bl, te, tr, ma, be) := by
  unfold wpY_structures
  refine ry_first hn hm hc ?_
  have hlen := rf_L_len (cp := cp) hn (fun p q h1 h2 h3 => by have := ((hc p q h1 h2).mp h3).1; omega)
  obtain ⟨m, l, e, em, hgo, hWs, hll⟩ := rf_rev (n := n) (cp := cp)
  rw [← em]
  rw [← hll] at h
  refine ⟨l.length + 2, ?_⟩
  exact ry_structs_loop hn hm hc l m 0 0 hgo hWs (by omega) (fun m' => by rw [Nat.zero_add]; exact h _)
end
