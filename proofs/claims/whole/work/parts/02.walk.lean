/-! pure: partner maps, the list of all structures in X's order, X's and Y's steps through it -/
noncomputable def rf_d (P : Prop) : Bool := @decide P (Classical.propDecidable P)
theorem rf_dt {P : Prop} (h : P) : rf_d P = true := @decide_eq_true P (Classical.propDecidable P) h
theorem rf_df {P : Prop} (h : ¬ P) : ¬ rf_d P = true := fun z => h (@of_decide_eq_true P (Classical.propDecidable P) z)
abbrev rf_M : Type := Nat → Option Nat
def rf_join (m : rf_M) (p q : Nat) : rf_M := fun i => if i = q then some p else if i = p then some q else m i
def rf_sep (m : rf_M) (p q : Nat) : rf_M := fun i => if i = q then none else if i = p then none else m i
def rf_0 : rf_M := fun _ => none
theorem rf_jp {m : rf_M} {p q : Nat} (h : p ≠ q) : rf_join m p q p = some q := by simp [rf_join, h]
theorem rf_jq {m : rf_M} {p q : Nat} : rf_join m p q q = some p := by simp [rf_join]
theorem rf_jo {m : rf_M} {p q i : Nat} (h1 : i ≠ p) (h2 : i ≠ q) : rf_join m p q i = m i := by simp [rf_join, h1, h2]
theorem rf_sp {m : rf_M} {p q : Nat} : rf_sep m p q p = none := by simp [rf_sep]
theorem rf_sq {m : rf_M} {p q : Nat} : rf_sep m p q q = none := by simp [rf_sep]
theorem rf_so {m : rf_M} {p q i : Nat} (h1 : i ≠ p) (h2 : i ≠ q) : rf_sep m p q i = m i := by simp [rf_sep, h1, h2]
theorem rf_sj {m : rf_M} {p q : Nat} (hp : m p = none) (hq : m q = none) : rf_sep (rf_join m p q) p q = m := by
  funext i
  by_cases h1 : i = q
  · rw [h1, rf_sq, hq]
  · by_cases h2 : i = p
    · rw [h2, rf_sp, hp]
    · rw [rf_so h2 h1, rf_jo h2 h1]
def rf_go (nx : rf_M → Option rf_M) : Option rf_M → List rf_M → Option rf_M → Prop
  | s, [], r => s = r
  | s, m :: l, r => s = some m ∧ rf_go nx (nx m) l r
theorem rf_go_app {nx : rf_M → Option rf_M} {l2 : List rf_M} {t r : Option rf_M} (h2 : rf_go nx t l2 r) : ∀ (l1 : List rf_M) (s : Option rf_M), rf_go nx s l1 t → rf_go nx s (l1 ++ l2) r
  | [], s, h1 => by
    have e : s = t := h1
    rw [e]; exact h2
  | m :: l1, s, h1 => ⟨h1.1, rf_go_app h2 l1 (nx m) h1.2⟩
noncomputable def rf_tq (f : Nat → List rf_M) (ok : Nat → Prop) : Nat → List rf_M
  | 0 => []
  | a + 1 => if rf_d (ok a) = true then f a ++ rf_tq f ok a else rf_tq f ok a
theorem rf_tq_t {f : Nat → List rf_M} {ok : Nat → Prop} {a : Nat} (h : ok a) : rf_tq f ok (a + 1) = f a ++ rf_tq f ok a := by
  simp only [rf_tq]; rw [if_pos (rf_dt h)]
theorem rf_tq_f {f : Nat → List rf_M} {ok : Nat → Prop} {a : Nat} (h : ¬ ok a) : rf_tq f ok (a + 1) = rf_tq f ok a := by
  simp only [rf_tq]; rw [if_neg (rf_df h)]
noncomputable def rf_T (n : Nat) (ok : rf_M → Nat → Nat → Prop) : Nat → Nat → rf_M → List rf_M
  | 0, _, m => [m]
  | k + 1, p, m => (m p).elim (rf_T n ok k (p + 1) m ++ rf_tq (fun q => rf_T n ok k (p + 1) (rf_join m p q)) (ok m p) n) (fun _ => rf_T n ok k (p + 1) m)
theorem rf_T_s {n : Nat} {ok : rf_M → Nat → Nat → Prop} {k p q : Nat} {m : rf_M} (h : m p = some q) : rf_T n ok (k + 1) p m = rf_T n ok k (p + 1) m := by
  simp only [rf_T]; rw [h]; rfl
theorem rf_T_n {n : Nat} {ok : rf_M → Nat → Nat → Prop} {k p : Nat} {m : rf_M} (h : m p = none) : rf_T n ok (k + 1) p m = rf_T n ok k (p + 1) m ++ rf_tq (fun q => rf_T n ok k (p + 1) (rf_join m p q)) (ok m p) n := by
  simp only [rf_T]; rw [h]; rfl
/-- the greatest q below a with ok q -/
noncomputable def rf_dn (ok : Nat → Prop) : Nat → Option Nat
  | 0 => none
  | a + 1 => if rf_d (ok a) = true then some a else rf_dn ok a
theorem rf_dn_t {ok : Nat → Prop} {a : Nat} (h : ok a) : rf_dn ok (a + 1) = some a := by
  simp only [rf_dn]; rw [if_pos (rf_dt h)]
theorem rf_dn_f {ok : Nat → Prop} {a : Nat} (h : ¬ ok a) : rf_dn ok (a + 1) = rf_dn ok a := by
  simp only [rf_dn]; rw [if_neg (rf_df h)]
noncomputable def rf_nx (n : Nat) (ok : rf_M → Nat → Nat → Prop) : Nat → rf_M → Option rf_M
  | 0, _ => none
  | p + 1, m => (m p).elim
      ((rf_dn (ok m p) n).elim (rf_nx n ok p m) (fun q => some (rf_join m p q)))
      (fun q => if p < q then (rf_dn (ok (rf_sep m p q) p) q).elim (rf_nx n ok p (rf_sep m p q)) (fun r => some (rf_join (rf_sep m p q) p r)) else rf_nx n ok p m)
noncomputable def rf_dg (n : Nat) (ok : rf_M → Nat → Nat → Prop) (p : Nat) (m : rf_M) (a : Nat) : Option rf_M :=
  (rf_dn (ok m p) a).elim (rf_nx n ok p m) (fun q => some (rf_join m p q))
theorem rf_nx_n {n : Nat} {ok : rf_M → Nat → Nat → Prop} {p : Nat} {m : rf_M} (h : m p = none) : rf_nx n ok (p + 1) m = rf_dg n ok p m n := by
  simp only [rf_nx]; rw [h]; rfl
theorem rf_nx_u {n : Nat} {ok : rf_M → Nat → Nat → Prop} {p q : Nat} {m : rf_M} (h : m p = some q) (hq : p < q) : rf_nx n ok (p + 1) m = rf_dg n ok p (rf_sep m p q) q := by
  simp only [rf_nx]; rw [h]; exact if_pos hq
theorem rf_nx_d {n : Nat} {ok : rf_M → Nat → Nat → Prop} {p q : Nat} {m : rf_M} (h : m p = some q) (hq : ¬ p < q) : rf_nx n ok (p + 1) m = rf_nx n ok p m := by
  simp only [rf_nx]; rw [h]; exact if_neg hq
theorem rf_dg_t {n : Nat} {ok : rf_M → Nat → Nat → Prop} {p a : Nat} {m : rf_M} (h : ok m p a) : rf_dg n ok p m (a + 1) = some (rf_join m p a) := by
  unfold rf_dg; rw [rf_dn_t h]; rfl
theorem rf_dg_f {n : Nat} {ok : rf_M → Nat → Nat → Prop} {p a : Nat} {m : rf_M} (h : ¬ ok m p a) : rf_dg n ok p m (a + 1) = rf_dg n ok p m a := by
  unfold rf_dg; rw [rf_dn_f h]
/-- what the steps need of ok -/
def rf_okP (n : Nat) (ok : rf_M → Nat → Nat → Prop) : Prop := ∀ m p q, ok m p q → p < q ∧ q < n ∧ m p = none ∧ m q = none
/-- bases from p on are free or close a pair opened before p -/
def rf_D (p : Nat) (m : rf_M) : Prop := ∀ i q, p ≤ i → m i = some q → q < p
theorem rf_D_s {p : Nat} {m : rf_M} (h : rf_D p m) : rf_D (p + 1) m := fun i q h1 h2 => Nat.lt_succ_of_lt (h i q (by omega) h2)
theorem rf_D_j {p a : Nat} {m : rf_M} (h : rf_D p m) : rf_D (p + 1) (rf_join m p a) := by
  intro i q h1 h2
  by_cases e : i = a
  · rw [e, rf_jq] at h2; cases h2; omega
  · rw [rf_jo (by omega) e] at h2
    have := h i q (by omega) h2
    omega
theorem rf_gx {n : Nat} {ok : rf_M → Nat → Nat → Prop} (hok : rf_okP n ok) : ∀ (k p : Nat) (m : rf_M), n = p + k → rf_D p m → rf_go (rf_nx n ok n) (some m) (rf_T n ok k p m) (rf_nx n ok p m) := by
  intro k
  induction k with
  | zero =>
    intro p m hn hD
    have e : n = p := by omega
    exact ⟨rfl, by rw [← e]; exact rfl⟩
  | succ k ih =>
    intro p m hn hD
    cases hm : m p with
    | some q =>
      have hq := hD p q (Nat.le_refl p) hm
      rw [rf_T_s hm, ← rf_nx_d hm (by omega)]
      exact ih (p + 1) m (by omega) (rf_D_s hD)
    | none =>
      rw [rf_T_n hm]
      have h1 := ih (p + 1) m (by omega) (rf_D_s hD)
      rw [rf_nx_n hm] at h1
      refine rf_go_app ?_ _ _ h1
      have key : ∀ a, a ≤ n → rf_go (rf_nx n ok n) (rf_dg n ok p m a) (rf_tq (fun q => rf_T n ok k (p + 1) (rf_join m p q)) (ok m p) a) (rf_nx n ok p m) := by
        intro a
        induction a with
        | zero => intro _; exact rfl
        | succ a iha =>
          intro ha
          have h2 := iha (by omega)
          by_cases h : ok m p a
          · obtain ⟨b1, b2, b3, b4⟩ := hok m p a h
            rw [rf_dg_t h, rf_tq_t h]
            have h3 := ih (p + 1) (rf_join m p a) (by omega) (rf_D_j hD)
            rw [rf_nx_u (rf_jp (by omega)) b1, rf_sj b3 b4] at h3
            exact rf_go_app h2 _ _ h3
          · rw [rf_dg_f h, rf_tq_f h]; exact h2
      exact key n (Nat.le_refl n)
/-- the least q from q on with ok q, k tries -/
noncomputable def rf_up (ok : Nat → Prop) : Nat → Nat → Option Nat
  | 0, _ => none
  | k + 1, q => if rf_d (ok q) = true then some q else rf_up ok k (q + 1)
noncomputable def rf_pu (n : Nat) (ok : rf_M → Nat → Nat → Prop) (m : rf_M) (p q : Nat) : rf_M := (rf_up (ok m p) (n - q) q).elim m (fun r => rf_join m p r)
theorem rf_pu_t {n : Nat} {ok : rf_M → Nat → Nat → Prop} {m : rf_M} {p q : Nat} (h : ok m p q) (hq : q < n) : rf_pu n ok m p q = rf_join m p q := by
  obtain ⟨k, hk⟩ : ∃ k, n - q = k + 1 := ⟨n - q - 1, by omega⟩
  unfold rf_pu; rw [hk]; simp only [rf_up]; rw [if_pos (rf_dt h)]; rfl
theorem rf_pu_f {n : Nat} {ok : rf_M → Nat → Nat → Prop} {m : rf_M} {p q : Nat} (h : ¬ ok m p q) (hq : q < n) : rf_pu n ok m p q = rf_pu n ok m p (q + 1) := by
  obtain ⟨k, hk⟩ : ∃ k, n - q = k + 1 := ⟨n - q - 1, by omega⟩
  have hk2 : n - (q + 1) = k := by omega
  unfold rf_pu; rw [hk, hk2]; simp only [rf_up]; rw [if_neg (rf_df h)]
theorem rf_pu_n {n : Nat} {ok : rf_M → Nat → Nat → Prop} {m : rf_M} {p q : Nat} (hq : n ≤ q) : rf_pu n ok m p q = m := by
  have hk : n - q = 0 := by omega
  unfold rf_pu; rw [hk]; rfl
theorem rf_pu_0 {n : Nat} {ok : rf_M → Nat → Nat → Prop} (hok : rf_okP n ok) {m : rf_M} {p : Nat} (hp : p < n) : ∀ q, q ≤ p + 1 → rf_pu n ok m p q = rf_pu n ok m p 0 := by
  intro q
  induction q with
  | zero => intro _; rfl
  | succ q ih =>
    intro h
    rw [← ih (by omega)]
    exact (rf_pu_f (fun z => by have := (hok m p q z).1; omega) (by omega)).symm
noncomputable def rf_fl (n : Nat) (ok : rf_M → Nat → Nat → Prop) : Nat → Nat → rf_M → rf_M
  | 0, _, m => m
  | k + 1, p, m => rf_fl n ok k (p + 1) ((m p).elim (rf_pu n ok m p (p + 1)) (fun _ => m))
theorem rf_fl_s {n : Nat} {ok : rf_M → Nat → Nat → Prop} {k p q : Nat} {m : rf_M} (h : m p = some q) : rf_fl n ok (k + 1) p m = rf_fl n ok k (p + 1) m := by
  simp only [rf_fl]; rw [h]; rfl
theorem rf_fl_n {n : Nat} {ok : rf_M → Nat → Nat → Prop} {k p : Nat} {m : rf_M} (h : m p = none) : rf_fl n ok (k + 1) p m = rf_fl n ok k (p + 1) (rf_pu n ok m p (p + 1)) := by
  simp only [rf_fl]; rw [h]; rfl
noncomputable def rf_ny (n : Nat) (ok : rf_M → Nat → Nat → Prop) : Nat → rf_M → Option rf_M
  | 0, _ => none
  | p + 1, m => (m p).elim (rf_ny n ok p m) (fun q => if p < q then some (rf_fl n ok (n - (p + 1)) (p + 1) (rf_pu n ok (rf_sep m p q) p (q + 1))) else rf_ny n ok p m)
theorem rf_ny_n {n : Nat} {ok : rf_M → Nat → Nat → Prop} {p : Nat} {m : rf_M} (h : m p = none) : rf_ny n ok (p + 1) m = rf_ny n ok p m := by
  simp only [rf_ny]; rw [h]; rfl
theorem rf_ny_d {n : Nat} {ok : rf_M → Nat → Nat → Prop} {p q : Nat} {m : rf_M} (h : m p = some q) (hq : ¬ p < q) : rf_ny n ok (p + 1) m = rf_ny n ok p m := by
  simp only [rf_ny]; rw [h]; exact if_neg hq
theorem rf_ny_u {n : Nat} {ok : rf_M → Nat → Nat → Prop} {p q : Nat} {m : rf_M} (h : m p = some q) (hq : p < q) : rf_ny n ok (p + 1) m = some (rf_fl n ok (n - (p + 1)) (p + 1) (rf_pu n ok (rf_sep m p q) p (q + 1))) := by
  simp only [rf_ny]; rw [h]; exact if_pos hq
theorem rf_gy {n : Nat} {ok : rf_M → Nat → Nat → Prop} (hok : rf_okP n ok) : ∀ (k p : Nat) (m : rf_M), n = p + k → rf_D p m → rf_go (rf_ny n ok n) (some (rf_fl n ok k p m)) (rf_T n ok k p m).reverse (rf_ny n ok p m) := by
  intro k
  induction k with
  | zero =>
    intro p m hn hD
    have e : n = p := by omega
    exact ⟨rfl, by rw [← e]; exact rfl⟩
  | succ k ih =>
    intro p m hn hD
    cases hm : m p with
    | some q =>
      have hq := hD p q (Nat.le_refl p) hm
      rw [rf_T_s hm, ← rf_ny_d hm (by omega), rf_fl_s hm]
      exact ih (p + 1) m (by omega) (rf_D_s hD)
    | none =>
      rw [rf_T_n hm, rf_fl_n hm, List.reverse_append, ← rf_ny_n hm]
      have h1 := ih (p + 1) m (by omega) (rf_D_s hD)
      refine rf_go_app h1 _ _ ?_
      have key : ∀ a, a ≤ n → rf_go (rf_ny n ok n) (some (rf_fl n ok k (p + 1) (rf_pu n ok m p (p + 1)))) (rf_tq (fun q => rf_T n ok k (p + 1) (rf_join m p q)) (ok m p) a).reverse (some (rf_fl n ok k (p + 1) (rf_pu n ok m p a))) := by
        intro a
        induction a with
        | zero =>
          intro _
          show some _ = some _
          rw [rf_pu_0 hok (by omega) (p + 1) (Nat.le_refl _)]
        | succ a iha =>
          intro ha
          have h2 := iha (by omega)
          by_cases h : ok m p a
          · obtain ⟨b1, b2, b3, b4⟩ := hok m p a h
            rw [rf_tq_t h, List.reverse_append]
            rw [rf_pu_t h (by omega)] at h2
            have h3 := ih (p + 1) (rf_join m p a) (by omega) (rf_D_j hD)
            rw [rf_ny_u (rf_jp (by omega)) b1, rf_sj b3 b4, show n - (p + 1) = k from by omega] at h3
            exact rf_go_app h3 _ _ h2
          · rw [rf_tq_f h, ← rf_pu_f h (by omega)]; exact h2
      have h4 := key n (Nat.le_refl n)
      rw [rf_pu_n (Nat.le_refl n)] at h4
      exact h4
