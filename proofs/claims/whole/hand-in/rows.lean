section
theorem pk_us {f : Nat → Int32} {k : Nat} {x : Int32} : upd f k x k = x := if_pos rfl
theorem pk_un {f : Nat → Int32} {k j : Nat} {x : Int32} (h : j ≠ k) : upd f k x j = f j := if_neg h
theorem pk_sub {a b : Nat} (h : b ≤ a) : nI a - nI b = nI (a - b) := by
  obtain ⟨c, rfl⟩ : ∃ c, a = c + b := ⟨a - b, by omega⟩
  rw [← nI_add, Int32.add_sub_cancel, Nat.add_sub_cancel]
theorem pk_m1 (n : Nat) : nI (n + 1) + (-1) = nI n := by
  rw [← nI_1, Int32.add_assoc, show (1 : Int32) + (-1) = 0 from rfl, Int32.add_zero]
theorem pk_mul (a b : Nat) : nI a * nI b = nI (a * b) := (Int32.ofNat_mul a b).symm
theorem pk_ix (x : Int32) {n : Nat} (hn : n < 2 ^ 31) : x < 0 ∨ nI n ≤ x ∨ ∃ j : Nat, j < n ∧ x = nI j := by
  by_cases h : x < 0
  · exact Or.inl h
  · obtain ⟨j, hj, rfl⟩ := nI_of h
    by_cases h2 : j < n
    · exact Or.inr (Or.inr ⟨j, h2, rfl⟩)
    · exact Or.inr (Or.inl (nI_le (by omega) hj))
theorem pk_le {x y : Int32} {A B : Prop} (a b : Nat) (f : a ≤ b → A) (g : b < a → B) (hx : x = nI a := by rfl) (hy : y = nI b := by rfl) (ha : a < 2 ^ 31 := by omega) (hb : b < 2 ^ 31 := by omega) : (x ≤ y → A) ∧ (¬ x ≤ y → B) := by
  subst hx hy
  rw [nI_leI ha hb]
  exact ⟨f, fun z => g (by omega)⟩
theorem pk_lt {x y : Int32} {A B : Prop} (a b : Nat) (f : a < b → A) (g : b ≤ a → B) (hx : x = nI a := by rfl) (hy : y = nI b := by rfl) (ha : a < 2 ^ 31 := by omega) (hb : b < 2 ^ 31 := by omega) : (x < y → A) ∧ (¬ x < y → B) := by
  subst hx hy
  rw [nI_ltI ha hb]
  exact ⟨f, fun z => g (by omega)⟩
theorem pk_eq {x y : Int32} {A B : Prop} (a b : Nat) (f : a = b → A) (g : a ≠ b → B) (hx : x = nI a := by rfl) (hy : y = nI b := by rfl) (ha : a < 2 ^ 31 := by omega) (hb : b < 2 ^ 31 := by omega) : (x = y → A) ∧ (¬ x = y → B) := by
  subst hx hy
  rw [nI_eq ha hb]
  exact ⟨f, g⟩
theorem pk_in {x : Int32} (n N : Nat) (h : n < N) (hx : x = nI n := by rfl) (hN : N < 2 ^ 31 := by omega) : vp_in x N := by
  subst hx
  exact vp_in_nI h hN
theorem pk_cl {x : Int32} (n : Nat) (hx : x = nI n := by rfl) (h : n < 2 ^ 31 := by omega) : x.toNatClampNeg = n := by
  subst hx
  exact nI_clamp h
theorem pk_loop {σ : Type} (W : Nat → Nat → σ → Prop) (I : Nat → σ → Prop) (e i0 : Nat) (s : σ) (hi : i0 ≤ e) (h0 : I i0 s) (hx : ∀ n s, I e s → W (n + 1) e s)
    (hs : ∀ n i s, i < e → I i s → (∀ s', I (i + 1) s' → W n (i + 1) s') → W (n + 1) i s) : ∃ n, W n i0 s :=
  ⟨e + 1, loop_i W I e hx hs (e + 1) i0 s hi (by omega) h0⟩
theorem pk_loopD {σ : Type} (W : Nat → Nat → σ → Prop) (I : Nat → σ → Prop) (hx : ∀ n s, I 0 s → W (n + 1) 0 s)
    (hs : ∀ n i s, I (i + 1) s → (∀ s', I i s' → W n i s') → W (n + 1) (i + 1) s) : ∀ (e : Nat) (s : σ), I e s → W (e + 1) e s := by
  intro e
  induction e with
  | zero => exact fun s h => hx 0 s h
  | succ e ih => exact fun s h => hs (e + 1) e s h (fun s' h' => ih s' h')
end
section
/-! pure: partner maps, the list of all structures in X's order, X's and Y's steps through it -/
noncomputable def rf_d (P : Prop) : Bool := @decide P (Classical.propDecidable P)
theorem rf_dt {P : Prop} (h : P) : rf_d P = true := @decide_eq_true P (Classical.propDecidable P) h
theorem rf_df {P : Prop} (h : ¬ P) : ¬ rf_d P = true := fun z => h (@of_decide_eq_true P (Classical.propDecidable P) z)
abbrev rf_M : Type := Nat → Option Nat
def rf_join (m : rf_M) (p q : Nat) : rf_M := fun i => if i = q then some p else if i = p then some q else m i
def rf_sep (m : rf_M) (p q : Nat) : rf_M := fun i => if i = q then none else if i = p then none else m i
def rf_0 : rf_M := fun _ => none
theorem rf_jp {m : rf_M} {p q : Nat} (h : p ≠ q) : rf_join m p q p = some q := by simp [rf_join, h]
theorem rf_jq {m : rf_M} {p q : Nat} : rf_join m p q q = some p := by simp [rf_join]
theorem rf_jo {m : rf_M} {p q i : Nat} (h1 : i ≠ p) (h2 : i ≠ q) : rf_join m p q i = m i := by simp [rf_join, h1, h2]
theorem rf_sp {m : rf_M} {p q : Nat} : rf_sep m p q p = none := by simp [rf_sep]
theorem rf_sq {m : rf_M} {p q : Nat} : rf_sep m p q q = none := by simp [rf_sep]
theorem rf_so {m : rf_M} {p q i : Nat} (h1 : i ≠ p) (h2 : i ≠ q) : rf_sep m p q i = m i := by simp [rf_sep, h1, h2]
theorem rf_sj {m : rf_M} {p q : Nat} (hp : m p = none) (hq : m q = none) : rf_sep (rf_join m p q) p q = m := by
  funext i
  by_cases h1 : i = q
  · rw [h1, rf_sq, hq]
  · by_cases h2 : i = p
    · rw [h2, rf_sp, hp]
    · rw [rf_so h2 h1, rf_jo h2 h1]
def rf_go (nx : rf_M → Option rf_M) : Option rf_M → List rf_M → Option rf_M → Prop
  | s, [], r => s = r
  | s, m :: l, r => s = some m ∧ rf_go nx (nx m) l r
theorem rf_go_app {nx : rf_M → Option rf_M} {l2 : List rf_M} {t r : Option rf_M} (h2 : rf_go nx t l2 r) : ∀ (l1 : List rf_M) (s : Option rf_M), rf_go nx s l1 t → rf_go nx s (l1 ++ l2) r
  | [], s, h1 => by
    have e : s = t := h1
    rw [e]; exact h2
  | m :: l1, s, h1 => ⟨h1.1, rf_go_app h2 l1 (nx m) h1.2⟩
noncomputable def rf_tq (f : Nat → List rf_M) (ok : Nat → Prop) : Nat → List rf_M
  | 0 => []
  | a + 1 => if rf_d (ok a) = true then f a ++ rf_tq f ok a else rf_tq f ok a
theorem rf_tq_t {f : Nat → List rf_M} {ok : Nat → Prop} {a : Nat} (h : ok a) : rf_tq f ok (a + 1) = f a ++ rf_tq f ok a := by
  simp only [rf_tq]; rw [if_pos (rf_dt h)]
theorem rf_tq_f {f : Nat → List rf_M} {ok : Nat → Prop} {a : Nat} (h : ¬ ok a) : rf_tq f ok (a + 1) = rf_tq f ok a := by
  simp only [rf_tq]; rw [if_neg (rf_df h)]
noncomputable def rf_T (n : Nat) (ok : rf_M → Nat → Nat → Prop) : Nat → Nat → rf_M → List rf_M
  | 0, _, m => [m]
  | k + 1, p, m => (m p).elim (rf_T n ok k (p + 1) m ++ rf_tq (fun q => rf_T n ok k (p + 1) (rf_join m p q)) (ok m p) n) (fun _ => rf_T n ok k (p + 1) m)
theorem rf_T_s {n : Nat} {ok : rf_M → Nat → Nat → Prop} {k p q : Nat} {m : rf_M} (h : m p = some q) : rf_T n ok (k + 1) p m = rf_T n ok k (p + 1) m := by
  simp only [rf_T]; rw [h]; rfl
theorem rf_T_n {n : Nat} {ok : rf_M → Nat → Nat → Prop} {k p : Nat} {m : rf_M} (h : m p = none) : rf_T n ok (k + 1) p m = rf_T n ok k (p + 1) m ++ rf_tq (fun q => rf_T n ok k (p + 1) (rf_join m p q)) (ok m p) n := by
  simp only [rf_T]; rw [h]; rfl
/-- the greatest q below a with ok q -/
noncomputable def rf_dn (ok : Nat → Prop) : Nat → Option Nat
  | 0 => none
  | a + 1 => if rf_d (ok a) = true then some a else rf_dn ok a
theorem rf_dn_t {ok : Nat → Prop} {a : Nat} (h : ok a) : rf_dn ok (a + 1) = some a := by
  simp only [rf_dn]; rw [if_pos (rf_dt h)]
theorem rf_dn_f {ok : Nat → Prop} {a : Nat} (h : ¬ ok a) : rf_dn ok (a + 1) = rf_dn ok a := by
  simp only [rf_dn]; rw [if_neg (rf_df h)]
noncomputable def rf_nx (n : Nat) (ok : rf_M → Nat → Nat → Prop) : Nat → rf_M → Option rf_M
  | 0, _ => none
  | p + 1, m => (m p).elim
      ((rf_dn (ok m p) n).elim (rf_nx n ok p m) (fun q => some (rf_join m p q)))
      (fun q => if p < q then (rf_dn (ok (rf_sep m p q) p) q).elim (rf_nx n ok p (rf_sep m p q)) (fun r => some (rf_join (rf_sep m p q) p r)) else rf_nx n ok p m)
noncomputable def rf_dg (n : Nat) (ok : rf_M → Nat → Nat → Prop) (p : Nat) (m : rf_M) (a : Nat) : Option rf_M :=
  (rf_dn (ok m p) a).elim (rf_nx n ok p m) (fun q => some (rf_join m p q))
theorem rf_nx_n {n : Nat} {ok : rf_M → Nat → Nat → Prop} {p : Nat} {m : rf_M} (h : m p = none) : rf_nx n ok (p + 1) m = rf_dg n ok p m n := by
  simp only [rf_nx]; rw [h]; rfl
theorem rf_nx_u {n : Nat} {ok : rf_M → Nat → Nat → Prop} {p q : Nat} {m : rf_M} (h : m p = some q) (hq : p < q) : rf_nx n ok (p + 1) m = rf_dg n ok p (rf_sep m p q) q := by
  simp only [rf_nx]; rw [h]; exact if_pos hq
theorem rf_nx_d {n : Nat} {ok : rf_M → Nat → Nat → Prop} {p q : Nat} {m : rf_M} (h : m p = some q) (hq : ¬ p < q) : rf_nx n ok (p + 1) m = rf_nx n ok p m := by
  simp only [rf_nx]; rw [h]; exact if_neg hq
theorem rf_dg_t {n : Nat} {ok : rf_M → Nat → Nat → Prop} {p a : Nat} {m : rf_M} (h : ok m p a) : rf_dg n ok p m (a + 1) = some (rf_join m p a) := by
  unfold rf_dg; rw [rf_dn_t h]; rfl
theorem rf_dg_f {n : Nat} {ok : rf_M → Nat → Nat → Prop} {p a : Nat} {m : rf_M} (h : ¬ ok m p a) : rf_dg n ok p m (a + 1) = rf_dg n ok p m a := by
  unfold rf_dg; rw [rf_dn_f h]
/-- what the steps need of ok -/
def rf_okP (n : Nat) (ok : rf_M → Nat → Nat → Prop) : Prop := ∀ m p q, ok m p q → p < q ∧ q < n ∧ m p = none ∧ m q = none
/-- bases from p on are free or close a pair opened before p -/
def rf_D (p : Nat) (m : rf_M) : Prop := ∀ i q, p ≤ i → m i = some q → q < p
theorem rf_D_s {p : Nat} {m : rf_M} (h : rf_D p m) : rf_D (p + 1) m := fun i q h1 h2 => Nat.lt_succ_of_lt (h i q (by omega) h2)
theorem rf_D_j {p a : Nat} {m : rf_M} (h : rf_D p m) : rf_D (p + 1) (rf_join m p a) := by
  intro i q h1 h2
  by_cases e : i = a
  · rw [e, rf_jq] at h2; cases h2; omega
  · rw [rf_jo (by omega) e] at h2
    have := h i q (by omega) h2
    omega
theorem rf_gx {n : Nat} {ok : rf_M → Nat → Nat → Prop} (hok : rf_okP n ok) : ∀ (k p : Nat) (m : rf_M), n = p + k → rf_D p m → rf_go (rf_nx n ok n) (some m) (rf_T n ok k p m) (rf_nx n ok p m) := by
  intro k
  induction k with
  | zero =>
    intro p m hn hD
    have e : n = p := by omega
    exact ⟨rfl, by rw [← e]; exact rfl⟩
  | succ k ih =>
    intro p m hn hD
    cases hm : m p with
    | some q =>
      have hq := hD p q (Nat.le_refl p) hm
      rw [rf_T_s hm, ← rf_nx_d hm (by omega)]
      exact ih (p + 1) m (by omega) (rf_D_s hD)
    | none =>
      rw [rf_T_n hm]
      have h1 := ih (p + 1) m (by omega) (rf_D_s hD)
      rw [rf_nx_n hm] at h1
      refine rf_go_app ?_ _ _ h1
      have key : ∀ a, a ≤ n → rf_go (rf_nx n ok n) (rf_dg n ok p m a) (rf_tq (fun q => rf_T n ok k (p + 1) (rf_join m p q)) (ok m p) a) (rf_nx n ok p m) := by
        intro a
        induction a with
        | zero => intro _; exact rfl
        | succ a iha =>
          intro ha
          have h2 := iha (by omega)
          by_cases h : ok m p a
          · obtain ⟨b1, b2, b3, b4⟩ := hok m p a h
            rw [rf_dg_t h, rf_tq_t h]
            have h3 := ih (p + 1) (rf_join m p a) (by omega) (rf_D_j hD)
            rw [rf_nx_u (rf_jp (by omega)) b1, rf_sj b3 b4] at h3
            exact rf_go_app h2 _ _ h3
          · rw [rf_dg_f h, rf_tq_f h]; exact h2
      exact key n (Nat.le_refl n)
/-- the least q from q on with ok q, k tries -/
noncomputable def rf_up (ok : Nat → Prop) : Nat → Nat → Option Nat
  | 0, _ => none
  | k + 1, q => if rf_d (ok q) = true then some q else rf_up ok k (q + 1)
noncomputable def rf_pu (n : Nat) (ok : rf_M → Nat → Nat → Prop) (m : rf_M) (p q : Nat) : rf_M := (rf_up (ok m p) (n - q) q).elim m (fun r => rf_join m p r)
theorem rf_pu_t {n : Nat} {ok : rf_M → Nat → Nat → Prop} {m : rf_M} {p q : Nat} (h : ok m p q) (hq : q < n) : rf_pu n ok m p q = rf_join m p q := by
  obtain ⟨k, hk⟩ : ∃ k, n - q = k + 1 := ⟨n - q - 1, by omega⟩
  unfold rf_pu; rw [hk]; simp only [rf_up]; rw [if_pos (rf_dt h)]; rfl
theorem rf_pu_f {n : Nat} {ok : rf_M → Nat → Nat → Prop} {m : rf_M} {p q : Nat} (h : ¬ ok m p q) (hq : q < n) : rf_pu n ok m p q = rf_pu n ok m p (q + 1) := by
  obtain ⟨k, hk⟩ : ∃ k, n - q = k + 1 := ⟨n - q - 1, by omega⟩
  have hk2 : n - (q + 1) = k := by omega
  unfold rf_pu; rw [hk, hk2]; simp only [rf_up]; rw [if_neg (rf_df h)]
theorem rf_pu_n {n : Nat} {ok : rf_M → Nat → Nat → Prop} {m : rf_M} {p q : Nat} (hq : n ≤ q) : rf_pu n ok m p q = m := by
  have hk : n - q = 0 := by omega
  unfold rf_pu; rw [hk]; rfl
theorem rf_pu_0 {n : Nat} {ok : rf_M → Nat → Nat → Prop} (hok : rf_okP n ok) {m : rf_M} {p : Nat} (hp : p < n) : ∀ q, q ≤ p + 1 → rf_pu n ok m p q = rf_pu n ok m p 0 := by
  intro q
  induction q with
  | zero => intro _; rfl
  | succ q ih =>
    intro h
    rw [← ih (by omega)]
    exact (rf_pu_f (fun z => by have := (hok m p q z).1; omega) (by omega)).symm
noncomputable def rf_fl (n : Nat) (ok : rf_M → Nat → Nat → Prop) : Nat → Nat → rf_M → rf_M
  | 0, _, m => m
  | k + 1, p, m => rf_fl n ok k (p + 1) ((m p).elim (rf_pu n ok m p (p + 1)) (fun _ => m))
theorem rf_fl_s {n : Nat} {ok : rf_M → Nat → Nat → Prop} {k p q : Nat} {m : rf_M} (h : m p = some q) : rf_fl n ok (k + 1) p m = rf_fl n ok k (p + 1) m := by
  simp only [rf_fl]; rw [h]; rfl
theorem rf_fl_n {n : Nat} {ok : rf_M → Nat → Nat → Prop} {k p : Nat} {m : rf_M} (h : m p = none) : rf_fl n ok (k + 1) p m = rf_fl n ok k (p + 1) (rf_pu n ok m p (p + 1)) := by
  simp only [rf_fl]; rw [h]; rfl
noncomputable def rf_ny (n : Nat) (ok : rf_M → Nat → Nat → Prop) : Nat → rf_M → Option rf_M
  | 0, _ => none
  | p + 1, m => (m p).elim (rf_ny n ok p m) (fun q => if p < q then some (rf_fl n ok (n - (p + 1)) (p + 1) (rf_pu n ok (rf_sep m p q) p (q + 1))) else rf_ny n ok p m)
theorem rf_ny_n {n : Nat} {ok : rf_M → Nat → Nat → Prop} {p : Nat} {m : rf_M} (h : m p = none) : rf_ny n ok (p + 1) m = rf_ny n ok p m := by
  simp only [rf_ny]; rw [h]; rfl
theorem rf_ny_d {n : Nat} {ok : rf_M → Nat → Nat → Prop} {p q : Nat} {m : rf_M} (h : m p = some q) (hq : ¬ p < q) : rf_ny n ok (p + 1) m = rf_ny n ok p m := by
  simp only [rf_ny]; rw [h]; exact if_neg hq
theorem rf_ny_u {n : Nat} {ok : rf_M → Nat → Nat → Prop} {p q : Nat} {m : rf_M} (h : m p = some q) (hq : p < q) : rf_ny n ok (p + 1) m = some (rf_fl n ok (n - (p + 1)) (p + 1) (rf_pu n ok (rf_sep m p q) p (q + 1))) := by
  simp only [rf_ny]; rw [h]; exact if_pos hq
theorem rf_gy {n : Nat} {ok : rf_M → Nat → Nat → Prop} (hok : rf_okP n ok) : ∀ (k p : Nat) (m : rf_M), n = p + k → rf_D p m → rf_go (rf_ny n ok n) (some (rf_fl n ok k p m)) (rf_T n ok k p m).reverse (rf_ny n ok p m) := by
  intro k
  induction k with
  | zero =>
    intro p m hn hD
    have e : n = p := by omega
    exact ⟨rfl, by rw [← e]; exact rfl⟩
  | succ k ih =>
    intro p m hn hD
    cases hm : m p with
    | some q =>
      have hq := hD p q (Nat.le_refl p) hm
      rw [rf_T_s hm, ← rf_ny_d hm (by omega), rf_fl_s hm]
      exact ih (p + 1) m (by omega) (rf_D_s hD)
    | none =>
      rw [rf_T_n hm, rf_fl_n hm, List.reverse_append, ← rf_ny_n hm]
      have h1 := ih (p + 1) m (by omega) (rf_D_s hD)
      refine rf_go_app h1 _ _ ?_
      have key : ∀ a, a ≤ n → rf_go (rf_ny n ok n) (some (rf_fl n ok k (p + 1) (rf_pu n ok m p (p + 1)))) (rf_tq (fun q => rf_T n ok k (p + 1) (rf_join m p q)) (ok m p) a).reverse (some (rf_fl n ok k (p + 1) (rf_pu n ok m p a))) := by
        intro a
        induction a with
        | zero =>
          intro _
          show some _ = some _
          rw [rf_pu_0 hok (by omega) (p + 1) (Nat.le_refl _)]
        | succ a iha =>
          intro ha
          have h2 := iha (by omega)
          by_cases h : ok m p a
          · obtain ⟨b1, b2, b3, b4⟩ := hok m p a h
            rw [rf_tq_t h, List.reverse_append]
            rw [rf_pu_t h (by omega)] at h2
            have h3 := ih (p + 1) (rf_join m p a) (by omega) (rf_D_j hD)
            rw [rf_ny_u (rf_jp (by omega)) b1, rf_sj b3 b4, show n - (p + 1) = k from by omega] at h3
            exact rf_go_app h3 _ _ h2
          · rw [rf_tq_f h, ← rf_pu_f h (by omega)]; exact h2
      have h4 := key n (Nat.le_refl n)
      rw [rf_pu_n (Nat.le_refl n)] at h4
      exact h4
end
section
/-! pure: structures, what fits, the number of structures, the best of a list from both ends -/
def rf_W (n : Nat) (m : rf_M) : Prop :=
  (∀ i q, m i = some q → i < n ∧ q < n ∧ q ≠ i ∧ m q = some i) ∧
  (∀ i j k l, m i = some j → m k = some l → i < k → k < j → i < l ∧ l < j)
def rf_F (m : rf_M) (i j : Nat) : Prop := m i = none ∧ m j = none ∧ ∀ p q, i < p → p < j → m p = some q → i ≤ q ∧ q ≤ j
def rf_ok (n : Nat) (cp : Nat → Nat → Prop) (m : rf_M) (p q : Nat) : Prop := p < q ∧ q < n ∧ cp p q ∧ rf_F m p q
theorem rf_ok_P (n : Nat) (cp : Nat → Nat → Prop) : rf_okP n (rf_ok n cp) := fun _ _ _ h => ⟨h.1, h.2.1, h.2.2.2.1, h.2.2.2.2.1⟩
theorem rf_W0 (n : Nat) : rf_W n rf_0 := ⟨fun i q h => (by cases h), fun i j k l h => (by cases h)⟩
theorem rf_Wj {n : Nat} {m : rf_M} {p q : Nat} (hW : rf_W n m) (hpq : p < q) (hq : q < n) (hF : rf_F m p q) : rf_W n (rf_join m p q) := by
  obtain ⟨w1, w2⟩ := hW
  obtain ⟨f1, f2, f3⟩ := hF
  have nn : ∀ {i j}, m i = some j → i ≠ p ∧ i ≠ q ∧ j ≠ p ∧ j ≠ q := by
    intro i j h
    obtain ⟨-, -, -, h4⟩ := w1 i j h
    refine ⟨fun e => ?_, fun e => ?_, fun e => ?_, fun e => ?_⟩
    · rw [e, f1] at h; cases h
    · rw [e, f2] at h; cases h
    · rw [e, f1] at h4; cases h4
    · rw [e, f2] at h4; cases h4
  have cs : ∀ {i j}, rf_join m p q i = some j → (i = q ∧ j = p) ∨ (i = p ∧ j = q) ∨ m i = some j := by
    intro i j h
    by_cases e1 : i = q
    · rw [e1, rf_jq] at h; cases h; exact Or.inl ⟨e1, rfl⟩
    · by_cases e2 : i = p
      · rw [e2, rf_jp (by omega)] at h; cases h; exact Or.inr (Or.inl ⟨e2, rfl⟩)
      · rw [rf_jo e2 e1] at h; exact Or.inr (Or.inr h)
  refine ⟨fun i j h => ?_, fun i j k l h1 h2 h3 h4 => ?_⟩
  · rcases cs h with ⟨rfl, rfl⟩ | ⟨rfl, rfl⟩ | h
    · exact ⟨hq, by omega, by omega, rf_jp (by omega)⟩
    · exact ⟨by omega, hq, by omega, rf_jq⟩
    · obtain ⟨a1, a2, a3, a4⟩ := w1 i j h
      obtain ⟨b1, b2, b3, b4⟩ := nn h
      exact ⟨a1, a2, a3, by rw [rf_jo b3 b4]; exact a4⟩
  · rcases cs h1 with ⟨e1, e2⟩ | ⟨e1, e2⟩ | g1
    · omega
    · rcases cs h2 with ⟨e3, e4⟩ | ⟨e3, e4⟩ | g2
      · omega
      · omega
      · have := f3 k l (by omega) (by omega) g2
        obtain ⟨b1, b2, b3, b4⟩ := nn g2
        omega
    · obtain ⟨b1, b2, b3, b4⟩ := nn g1
      obtain ⟨-, -, -, a4⟩ := w1 i j g1
      rcases cs h2 with ⟨e3, e4⟩ | ⟨e3, e4⟩ | g2
      · refine ⟨?_, by omega⟩
        rcases Nat.lt_or_ge i l with z | z
        · exact z
        · have := f3 i j (by omega) (by omega) g1
          omega
      · refine ⟨by omega, ?_⟩
        rcases Nat.lt_or_ge l j with z | z
        · exact z
        · have := f3 j i (by omega) (by omega) a4
          omega
      · exact w2 i j k l g1 g2 h3 h4
theorem rf_Ws {n : Nat} {m : rf_M} {p q : Nat} (hW : rf_W n m) (hm : m p = some q) : rf_W n (rf_sep m p q) := by
  obtain ⟨w1, w2⟩ := hW
  obtain ⟨-, -, -, hmq⟩ := w1 p q hm
  have cs : ∀ {i j}, rf_sep m p q i = some j → i ≠ p ∧ i ≠ q ∧ m i = some j := by
    intro i j h
    by_cases e1 : i = q
    · rw [e1, rf_sq] at h; cases h
    · by_cases e2 : i = p
      · rw [e2, rf_sp] at h; cases h
      · rw [rf_so e2 e1] at h; exact ⟨e2, e1, h⟩
  refine ⟨fun i j h => ?_, fun i j k l h1 h2 h3 h4 => w2 i j k l (cs h1).2.2 (cs h2).2.2 h3 h4⟩
  obtain ⟨c1, c2, c3⟩ := cs h
  obtain ⟨a1, a2, a3, a4⟩ := w1 i j c3
  refine ⟨a1, a2, a3, ?_⟩
  have d1 : j ≠ p := fun e => by rw [e, hm] at a4; cases a4; exact c2 rfl
  have d2 : j ≠ q := fun e => by rw [e, hmq] at a4; cases a4; exact c1 rfl
  rw [rf_so d1 d2]; exact a4
theorem rf_TW {n : Nat} {cp : Nat → Nat → Prop} : ∀ (k p : Nat) (m : rf_M), rf_W n m → ∀ x, x ∈ rf_T n (rf_ok n cp) k p m → rf_W n x := by
  intro k
  induction k with
  | zero =>
    intro p m hW x hx
    have e : x = m := List.mem_singleton.mp hx
    rw [e]; exact hW
  | succ k ih =>
    intro p m hW x hx
    cases hm : m p with
    | some q => rw [rf_T_s hm] at hx; exact ih _ _ hW x hx
    | none =>
      rw [rf_T_n hm] at hx
      rcases List.mem_append.mp hx with h | h
      · exact ih _ _ hW x h
      · have key : ∀ a, x ∈ rf_tq (fun q => rf_T n (rf_ok n cp) k (p + 1) (rf_join m p q)) (rf_ok n cp m p) a → rf_W n x := by
          intro a
          induction a with
          | zero => intro z; cases z
          | succ a iha =>
            intro z
            by_cases o : rf_ok n cp m p a
            · rw [rf_tq_t o] at z
              rcases List.mem_append.mp z with z | z
              · exact ih _ _ (rf_Wj hW o.1 o.2.1 o.2.2.2) x z
              · exact iha z
            · rw [rf_tq_f o] at z; exact iha z
        exact key n h
/-! the number of structures -/
def rf_B : Nat → Nat
  | 0 => 1 | 1 => 1 | 2 => 1 | 3 => 1 | 4 => 2 | 5 => 4 | 6 => 8 | 7 => 16 | 8 => 33 | 9 => 69 | 10 => 146 | 11 => 312 | 12 => 673 | 13 => 1463 | 14 => 3202 | _ => 0
def rf_S (L : Nat) : Nat → Nat
  | 0 => 0
  | d + 1 => (if 2 ≤ d ∧ d + 1 ≤ L then rf_B (L - d - 1) * rf_B d else 0) + rf_S L d
theorem rf_S_mono (L : Nat) : ∀ e d, rf_S L d ≤ rf_S L (d + e) := by
  intro e
  induction e with
  | zero => intro d; exact Nat.le_refl _
  | succ e ih =>
    intro d
    have h := ih d
    have h2 : rf_S L (d + (e + 1)) = (if 2 ≤ d + e ∧ d + e + 1 ≤ L then rf_B (L - (d + e) - 1) * rf_B (d + e) else 0) + rf_S L (d + e) := rfl
    omega
theorem rf_B_rec : ∀ L, L < 14 → rf_B L + rf_S L 14 ≤ rf_B (L + 1) := by decide +kernel
theorem rf_B_max : ∀ L, L < 15 → rf_B L ≤ 3202 := by decide +kernel
def rf_G : Nat → Nat → rf_M → Nat × Nat
  | 0, _, _ => (1, 0)
  | k + 1, p, m => (m p).elim ((rf_G k (p + 1) m).1, (rf_G k (p + 1) m).2 + 1) (fun _ => ((rf_G k (p + 1) m).1 * rf_B (rf_G k (p + 1) m).2, 0))
theorem rf_G_n {k p : Nat} {m : rf_M} (h : m p = none) : rf_G (k + 1) p m = ((rf_G k (p + 1) m).1, (rf_G k (p + 1) m).2 + 1) := by
  simp only [rf_G]; rw [h]; rfl
theorem rf_G_s {k p q : Nat} {m : rf_M} (h : m p = some q) : rf_G (k + 1) p m = ((rf_G k (p + 1) m).1 * rf_B (rf_G k (p + 1) m).2, 0) := by
  simp only [rf_G]; rw [h]; rfl
theorem rf_G_le : ∀ (k p : Nat) (m : rf_M), (rf_G k p m).2 ≤ k := by
  intro k
  induction k with
  | zero => intro p m; exact Nat.le_refl _
  | succ k ih =>
    intro p m
    have := ih (p + 1) m
    cases h : m p with
    | none => rw [rf_G_n h]; show _ + 1 ≤ _; omega
    | some q => rw [rf_G_s h]; show 0 ≤ _; omega
theorem rf_G_c : ∀ (k p : Nat) (m m' : rf_M), (∀ i, p ≤ i → m i = m' i) → rf_G k p m = rf_G k p m' := by
  intro k
  induction k with
  | zero => intro p m m' _; rfl
  | succ k ih =>
    intro p m m' h
    have e := ih (p + 1) m m' (fun i hi => h i (by omega))
    simp only [rf_G]; rw [h p (Nat.le_refl p), e]
theorem rf_G_j {p : Nat} {m : rf_M} : ∀ (d k p' : Nat), d < k → p < p' → (∀ i, p' ≤ i → i ≤ p' + d → m i = none) →
    d + 1 ≤ (rf_G k p' m).2 ∧ rf_G k p' (rf_join m p (p' + d)) = ((rf_G k p' m).1 * rf_B ((rf_G k p' m).2 - d - 1), d) := by
  intro d
  induction d with
  | zero =>
    intro k p' hd hp hf
    obtain ⟨k, rfl⟩ : ∃ k', k = k' + 1 := ⟨k - 1, by omega⟩
    have h0 : m p' = none := hf p' (Nat.le_refl _) (by omega)
    have e : rf_G k (p' + 1) (rf_join m p (p' + 0)) = rf_G k (p' + 1) m := rf_G_c _ _ _ _ (fun i hi => rf_jo (by omega) (by omega))
    rw [rf_G_n h0, rf_G_s (m := rf_join m p (p' + 0)) (p := p') (q := p) rf_jq, e]
    refine ⟨?_, ?_⟩
    · show _ ≤ _ + 1; omega
    · show (_, _) = (_ * rf_B (_ + 1 - 0 - 1), _)
      rw [show (rf_G k (p' + 1) m).2 + 1 - 0 - 1 = (rf_G k (p' + 1) m).2 from by omega]
  | succ d ih =>
    intro k p' hd hp hf
    obtain ⟨k, rfl⟩ : ∃ k', k = k' + 1 := ⟨k - 1, by omega⟩
    have h0 : m p' = none := hf p' (Nat.le_refl _) (by omega)
    obtain ⟨i1, i2⟩ := ih k (p' + 1) (by omega) (by omega) (fun i h1 h2 => hf i (by omega) (by omega))
    rw [show p' + 1 + d = p' + (d + 1) from by omega] at i2
    have h1 : rf_join m p (p' + (d + 1)) p' = none := by rw [rf_jo (by omega) (by omega)]; exact h0
    rw [rf_G_n h0, rf_G_n h1, i2]
    refine ⟨?_, ?_⟩
    · show _ ≤ _ + 1; omega
    · show (_ * _, _) = (_ * rf_B (_ + 1 - (d + 1) - 1), _)
      rw [show (rf_G k (p' + 1) m).2 + 1 - (d + 1) - 1 = (rf_G k (p' + 1) m).2 - d - 1 from by omega]
theorem rf_len {n : Nat} {cp : Nat → Nat → Prop} (hn14 : n ≤ 14) (hcp : ∀ p q, p < q → q < n → cp p q → p + 3 ≤ q) : ∀ (k p : Nat) (m : rf_M), n = p + k → rf_D p m →
    (rf_T n (rf_ok n cp) k p m).length ≤ (rf_G k p m).1 * rf_B (rf_G k p m).2 := by
  intro k
  induction k with
  | zero => intro p m hn hD; exact Nat.le_refl _
  | succ k ih =>
    intro p m hn hD
    have h1 := ih (p + 1) m (by omega) (rf_D_s hD)
    cases hm : m p with
    | some q =>
      rw [rf_T_s hm, rf_G_s hm]
      show _ ≤ _ * rf_B 0
      rw [show rf_B 0 = 1 from rfl, Nat.mul_one]
      exact h1
    | none =>
      rw [rf_T_n hm, rf_G_n hm, List.length_append]
      have hL := rf_G_le k (p + 1) m
      have key : ∀ a, a ≤ n → (rf_tq (fun q => rf_T n (rf_ok n cp) k (p + 1) (rf_join m p q)) (rf_ok n cp m p) a).length ≤ (rf_G k (p + 1) m).1 * rf_S (rf_G k (p + 1) m).2 (a - (p + 1)) := by
        intro a
        induction a with
        | zero => intro _; exact Nat.zero_le _
        | succ a iha =>
          intro ha
          have h2 := iha (by omega)
          by_cases o : rf_ok n cp m p a
          · have h3 := hcp p a o.1 o.2.1 o.2.2.1
            obtain ⟨d, hd⟩ : ∃ d, a = p + 1 + d := ⟨a - (p + 1), by omega⟩
            have hf : ∀ i, p + 1 ≤ i → i ≤ p + 1 + d → m i = none := by
              intro i i1 i2
              cases hi : m i with
              | none => rfl
              | some s =>
                exfalso
                have h4 := hD i s (by omega) hi
                by_cases e : i = a
                · rw [e, o.2.2.2.2.1] at hi; cases hi
                · have := o.2.2.2.2.2 i s (by omega) (by omega) hi
                  omega
            obtain ⟨j1, j2⟩ := rf_G_j (p := p) (m := m) d k (p + 1) (by omega) (by omega) hf
            have h5 := ih (p + 1) (rf_join m p a) (by omega) (rf_D_j hD)
            rw [hd, j2] at h5
            rw [rf_tq_t o, List.length_append, show a + 1 - (p + 1) = d + 1 from by omega]
            rw [show a - (p + 1) = d from by omega] at h2
            have e : rf_S (rf_G k (p + 1) m).2 (d + 1) = rf_B ((rf_G k (p + 1) m).2 - d - 1) * rf_B d + rf_S (rf_G k (p + 1) m).2 d := by
              simp only [rf_S]; rw [if_pos ⟨by omega, j1⟩]
            rw [e, Nat.mul_add, ← Nat.mul_assoc]
            rw [← hd] at h5
            exact Nat.add_le_add h5 h2
          · rw [rf_tq_f o]
            refine Nat.le_trans h2 (Nat.mul_le_mul_left _ ?_)
            have := rf_S_mono (rf_G k (p + 1) m).2 (a + 1 - (p + 1) - (a - (p + 1))) (a - (p + 1))
            rw [show a - (p + 1) + (a + 1 - (p + 1) - (a - (p + 1))) = a + 1 - (p + 1) from by omega] at this
            exact this
      have h6 := key n (Nat.le_refl n)
      have h7 := rf_S_mono (rf_G k (p + 1) m).2 (14 - (n - (p + 1))) (n - (p + 1))
      rw [show n - (p + 1) + (14 - (n - (p + 1))) = 14 from by omega] at h7
      have h8 := rf_B_rec (rf_G k (p + 1) m).2 (by omega)
      refine Nat.le_trans (Nat.add_le_add h1 h6) ?_
      show _ ≤ _ * rf_B (_ + 1)
      rw [← Nat.mul_add]
      exact Nat.mul_le_mul_left _ (by omega)
theorem rf_G_0 : ∀ (k p : Nat), rf_G k p rf_0 = (1, k) := by
  intro k
  induction k with
  | zero => intro p; rfl
  | succ k ih => intro p; rw [rf_G_n (m := rf_0) rfl, ih]
noncomputable def rf_L (n : Nat) (cp : Nat → Nat → Prop) : List rf_M := rf_T n (rf_ok n cp) n 0 rf_0
theorem rf_D0 : rf_D 0 rf_0 := fun i q _ h => by cases h
theorem rf_L_len {n : Nat} {cp : Nat → Nat → Prop} (hn14 : n ≤ 14) (hcp : ∀ p q, p < q → q < n → cp p q → p + 3 ≤ q) : (rf_L n cp).length ≤ 3202 := by
  have h := rf_len hn14 hcp n 0 rf_0 (by omega) rf_D0
  rw [rf_G_0] at h
  have h2 := rf_B_max n (by omega)
  have h3 : (rf_L n cp).length ≤ 1 * rf_B n := h
  omega
theorem rf_L_x {n : Nat} {cp : Nat → Nat → Prop} : rf_go (rf_nx n (rf_ok n cp) n) (some rf_0) (rf_L n cp) none :=
  rf_gx (rf_ok_P n cp) n 0 rf_0 (by omega) rf_D0
theorem rf_L_y {n : Nat} {cp : Nat → Nat → Prop} : rf_go (rf_ny n (rf_ok n cp) n) (some (rf_fl n (rf_ok n cp) n 0 rf_0)) (rf_L n cp).reverse none :=
  rf_gy (rf_ok_P n cp) n 0 rf_0 (by omega) rf_D0
theorem rf_L_W {n : Nat} {cp : Nat → Nat → Prop} : ∀ x, x ∈ rf_L n cp → rf_W n x := rf_TW n 0 rf_0 (rf_W0 n)
theorem rf_L_h {n : Nat} {cp : Nat → Nat → Prop} : ∃ l, rf_L n cp = rf_0 :: l := by
  have h := rf_L_x (n := n) (cp := cp)
  cases e : rf_L n cp with
  | nil => rw [e] at h; cases h
  | cons m l => rw [e] at h; exact ⟨l, by rw [Option.some.inj h.1]⟩
/-! the best of a list: X from its front, Y from its back -/
def rf_fx (E : rf_M → Int32) (a : Int32 × rf_M) (m : rf_M) : Int32 × rf_M := if E m ≤ a.1 then (E m, m) else a
def rf_fy (E : rf_M → Int32) (a : Int32 × rf_M) (m : rf_M) : Int32 × rf_M := if E m < a.1 then (E m, m) else a
def rf_R (E : rf_M → Int32) (z : Int32 × rf_M) : List rf_M → Int32 × rf_M
  | [] => z
  | m :: l => rf_fy E (rf_R E z l) m
theorem rf_R_y (E : rf_M → Int32) (z : Int32 × rf_M) : ∀ l : List rf_M, l.reverse.foldl (rf_fy E) z = rf_R E z l
  | [] => rfl
  | m :: l => by rw [List.reverse_cons, List.foldl_append, rf_R_y E z l]; rfl
theorem rf_R_x (E : rf_M → Int32) (z : Int32 × rf_M) : ∀ (l : List rf_M) (a : Int32 × rf_M), a.1 < z.1 → l.foldl (rf_fx E) a = if (rf_R E z l).1 ≤ a.1 then rf_R E z l else a
  | [], a, h => by
    have h' : ¬ z.1 ≤ a.1 := by rw [Int32.le_iff_toInt_le]; rw [Int32.lt_iff_toInt_lt] at h; omega
    exact (if_neg h').symm
  | m :: l, a, h => by
    have hR : rf_R E z (m :: l) = if E m < (rf_R E z l).1 then (E m, m) else rf_R E z l := rfl
    rw [hR, List.foldl_cons]
    rw [Int32.lt_iff_toInt_lt] at h
    by_cases c : E m ≤ a.1
    · have e : rf_fx E a m = (E m, m) := if_pos c
      have c' := Int32.le_iff_toInt_le.mp c
      rw [e, rf_R_x E z l (E m, m) (by rw [Int32.lt_iff_toInt_lt]; show (E m).toInt < _; omega)]
      show (if (rf_R E z l).1 ≤ E m then rf_R E z l else (E m, m)) = _
      by_cases d : E m < (rf_R E z l).1
      · have d' := Int32.lt_iff_toInt_lt.mp d
        rw [if_pos d, if_neg (by rw [Int32.le_iff_toInt_le]; omega)]
        exact (if_pos c).symm
      · have d' : (rf_R E z l).1.toInt ≤ (E m).toInt := by rw [Int32.lt_iff_toInt_lt] at d; omega
        rw [if_neg d, if_pos (by rw [Int32.le_iff_toInt_le]; omega), if_pos (by rw [Int32.le_iff_toInt_le]; omega)]
    · have e : rf_fx E a m = a := if_neg c
      have c' : a.1.toInt < (E m).toInt := by rw [Int32.le_iff_toInt_le] at c; omega
      rw [e, rf_R_x E z l a (by rw [Int32.lt_iff_toInt_lt]; omega)]
      by_cases d : E m < (rf_R E z l).1
      · have d' := Int32.lt_iff_toInt_lt.mp d
        rw [if_pos d, if_neg (by rw [Int32.le_iff_toInt_le]; omega)]
        exact (if_neg c).symm
      · rw [if_neg d]
theorem rf_best {E : rf_M → Int32} {z : Int32 × rf_M} {l : List rf_M} {b : rf_M} (h0 : E rf_0 = 0) (hz : (0 : Int32) < z.1) : (rf_0 :: l).foldl (rf_fx E) (0, b) = (rf_0 :: l).reverse.foldl (rf_fy E) z := by
  have e : rf_fx E (0, b) rf_0 = (E rf_0, rf_0) := if_pos (by rw [h0]; exact Int32.le_refl 0)
  rw [rf_R_y, List.foldl_cons, e, rf_R_x E z l (E rf_0, rf_0) (by rw [h0]; exact hz)]
  show (if (rf_R E z l).1 ≤ E rf_0 then rf_R E z l else (E rf_0, rf_0)) = if E rf_0 < (rf_R E z l).1 then (E rf_0, rf_0) else rf_R E z l
  by_cases d : E rf_0 < (rf_R E z l).1
  · have d' := Int32.lt_iff_toInt_lt.mp d
    rw [if_pos d, if_neg (by rw [Int32.le_iff_toInt_le]; omega)]
  · rw [if_neg d, if_pos (by rw [Int32.le_iff_toInt_le]; rw [Int32.lt_iff_toInt_lt] at d; omega)]
/-- the least of a walk is not above 0 -/
theorem rf_best_0 {E : rf_M → Int32} {z : Int32 × rf_M} {l : List rf_M} (h0 : E rf_0 = 0) : ((rf_0 :: l).reverse.foldl (rf_fy E) z).1 ≤ 0 := by
  rw [rf_R_y]
  show (if E rf_0 < (rf_R E z l).1 then (E rf_0, rf_0) else rf_R E z l).1 ≤ 0
  by_cases d : E rf_0 < (rf_R E z l).1
  · rw [if_pos d]; show E rf_0 ≤ 0; rw [h0]; decide
  · rw [if_neg d]; rw [h0, Int32.lt_iff_toInt_lt] at d; rw [Int32.le_iff_toInt_le]; omega
/-- how many of a list -/
noncomputable def rf_k (P : rf_M → Prop) : List rf_M → Nat
  | [] => 0
  | m :: l => (if rf_d (P m) = true then 1 else 0) + rf_k P l
theorem rf_k_app (P : rf_M → Prop) (l2 : List rf_M) : ∀ l1 : List rf_M, rf_k P (l1 ++ l2) = rf_k P l1 + rf_k P l2
  | [] => by show rf_k P l2 = 0 + rf_k P l2; omega
  | m :: l => by
    show (if rf_d (P m) = true then 1 else 0) + rf_k P (l ++ l2) = (if rf_d (P m) = true then 1 else 0) + rf_k P l + rf_k P l2
    rw [rf_k_app P l2 l]; omega
theorem rf_k_rev (P : rf_M → Prop) : ∀ l : List rf_M, rf_k P l.reverse = rf_k P l
  | [] => rfl
  | m :: l => by
    rw [List.reverse_cons, rf_k_app, rf_k_rev P l]
    show rf_k P l + ((if rf_d (P m) = true then 1 else 0) + 0) = (if rf_d (P m) = true then 1 else 0) + rf_k P l
    omega
theorem rf_k_t {P : rf_M → Prop} {m : rf_M} {l : List rf_M} (h : P m) : rf_k P (m :: l) = 1 + rf_k P l := by
  simp only [rf_k]; rw [if_pos (rf_dt h)]
theorem rf_k_f {P : rf_M → Prop} {m : rf_M} {l : List rf_M} (h : ¬ P m) : rf_k P (m :: l) = rf_k P l := by
  simp only [rf_k]; rw [if_neg (rf_df h)]; omega
theorem rf_k_le (P : rf_M → Prop) : ∀ l : List rf_M, rf_k P l ≤ l.length
  | [] => Nat.le_refl _
  | m :: l => by
    have := rf_k_le P l
    by_cases h : P m
    · rw [rf_k_t h, List.length_cons]; omega
    · rw [rf_k_f h, List.length_cons]; omega
end
section
/-! pure: the energy of a structure -/
noncomputable def rf_ct (P : Nat → Prop) : Nat → Nat
  | 0 => 0
  | p + 1 => if rf_d (P p) = true then rf_ct P p + 1 else rf_ct P p
theorem rf_ct_t {P : Nat → Prop} {p : Nat} (h : P p) : rf_ct P (p + 1) = rf_ct P p + 1 := by
  simp only [rf_ct]; rw [if_pos (rf_dt h)]
theorem rf_ct_f {P : Nat → Prop} {p : Nat} (h : ¬ P p) : rf_ct P (p + 1) = rf_ct P p := by
  simp only [rf_ct]; rw [if_neg (rf_df h)]
theorem rf_ct_0 {P : Nat → Prop} : ∀ p, (∀ k, k < p → ¬ P k) → rf_ct P p = 0
  | 0, _ => rfl
  | p + 1, h => by rw [rf_ct_f (h p (by omega))]; exact rf_ct_0 p (fun k hk => h k (by omega))
theorem rf_ct_le (P : Nat → Prop) : ∀ p, rf_ct P p ≤ p
  | 0 => Nat.le_refl _
  | p + 1 => by
    have := rf_ct_le P p
    by_cases h : P p
    · rw [rf_ct_t h]; omega
    · rw [rf_ct_f h]; omega
noncomputable def rf_sm (P : Nat → Prop) (f : Nat → Int32) : Nat → Int32
  | 0 => 0
  | p + 1 => if rf_d (P p) = true then rf_sm P f p + f p else rf_sm P f p
theorem rf_sm_t {P : Nat → Prop} {f : Nat → Int32} {p : Nat} (h : P p) : rf_sm P f (p + 1) = rf_sm P f p + f p := by
  simp only [rf_sm]; rw [if_pos (rf_dt h)]
theorem rf_sm_f {P : Nat → Prop} {f : Nat → Int32} {p : Nat} (h : ¬ P p) : rf_sm P f (p + 1) = rf_sm P f p := by
  simp only [rf_sm]; rw [if_neg (rf_df h)]
noncomputable def rf_la (P : Nat → Prop) (i : Nat) : Nat → Nat
  | 0 => i
  | p + 1 => if rf_d (P p) = true then p else rf_la P i p
theorem rf_la_t {P : Nat → Prop} {i p : Nat} (h : P p) : rf_la P i (p + 1) = p := by
  simp only [rf_la]; rw [if_pos (rf_dt h)]
theorem rf_la_f {P : Nat → Prop} {i p : Nat} (h : ¬ P p) : rf_la P i (p + 1) = rf_la P i p := by
  simp only [rf_la]; rw [if_neg (rf_df h)]
/-- none counted: nothing summed; one counted: it is the last -/
theorem rf_one {P : Nat → Prop} {f : Nat → Int32} {i : Nat} : ∀ p, (rf_ct P p = 0 → rf_sm P f p = 0 ∧ rf_la P i p = i) ∧ (0 < rf_ct P p → P (rf_la P i p) ∧ rf_la P i p < p) ∧ (rf_ct P p = 1 → rf_sm P f p = f (rf_la P i p))
  | 0 => ⟨fun _ => ⟨rfl, rfl⟩, fun h => absurd h (by simp [rf_ct]), fun h => absurd h (by simp [rf_ct])⟩
  | p + 1 => by
    obtain ⟨h1, h2, h3⟩ := rf_one (P := P) (f := f) (i := i) p
    by_cases h : P p
    · rw [rf_ct_t h, rf_sm_t h, rf_la_t h]
      refine ⟨fun z => by omega, fun _ => ⟨h, by omega⟩, fun z => ?_⟩
      rw [(h1 (by omega)).1, Int32.zero_add]
    · rw [rf_ct_f h, rf_sm_f h, rf_la_f h]
      exact ⟨h1, fun z => ⟨(h2 z).1, by have := (h2 z).2; omega⟩, h3⟩
theorem rf_sm_0 {P : Nat → Prop} {f : Nat → Int32} : ∀ p, (∀ k, k < p → ¬ P k) → rf_sm P f p = 0
  | 0, _ => rfl
  | p + 1, h => by rw [rf_sm_f (h p (by omega))]; exact rf_sm_0 p (fun k hk => h k (by omega))
theorem rf_la_0 {P : Nat → Prop} {i : Nat} : ∀ p, (∀ k, k < p → ¬ P k) → rf_la P i p = i
  | 0, _ => rfl
  | p + 1, h => by rw [rf_la_f (h p (by omega))]; exact rf_la_0 p (fun k hk => h k (by omega))
def rf_st (a : Nat → Int32) (i j : Nat) : Int32 :=
  if (a i = 1 ∧ a j = 2) ∨ (a i = 2 ∧ a j = 1) then 0 else if (a i = 0 ∧ a j = 3) ∨ (a i = 3 ∧ a j = 0) then 1 else if (a i = 2 ∧ a j = 3) ∨ (a i = 3 ∧ a j = 2) then 2 else -1
def rf_en (a e : Nat → Int32) (i j : Nat) : Int32 := if rf_st a i j = 0 then 0 else e 16
def rf_sk (e : Nat → Int32) (s t : Int32) : Int32 :=
  if (if s < t then s else t) = 0 then (if (if s < t then t else s) = 0 then e 0 else if (if s < t then t else s) = 1 then e 1 else e 2)
  else if (if s < t then s else t) = 1 then (if (if s < t then t else s) = 1 then e 3 else e 4) else e 5
def rf_on (a e : Nat → Int32) (i j k l : Nat) : Int32 :=
  if k - i - 1 = 0 ∧ j - l - 1 = 0 then rf_sk e (rf_st a i j) (rf_st a k l)
  else if k - i - 1 = 0 ∨ j - l - 1 = 0 then e 8 + e 9 * nI (k - i - 1 + (j - l - 1)) + (rf_en a e i j + rf_en a e k l)
  else e 10 + e 11 * nI (k - i - 1 + (j - l - 1)) + e 12 * nI (if j - l - 1 < k - i - 1 then k - i - 1 - (j - l - 1) else j - l - 1 - (k - i - 1)) + (rf_en a e i j + rf_en a e k l)
/-- (k, l) directly inside (i, j) -/
def rf_I (m : rf_M) (i j k l : Nat) : Prop := i < k ∧ l < j ∧ ∀ p q, i < p → p < k → m p = some q → ¬ (l < q ∧ q < j)
def rf_C (m : rf_M) (i j k : Nat) : Prop := ∃ l, m k = some l ∧ k < l ∧ rf_I m i j k l
def rf_V (m : rf_M) (i j p : Nat) : Prop := ∃ k l, i < k ∧ k < p ∧ m k = some l ∧ p < l ∧ rf_I m i j k l
def rf_U (m : rf_M) (i j p : Nat) : Prop := i < p ∧ m p = none ∧ ¬ rf_V m i j p
def rf_mt (m : rf_M) (k : Nat) : Nat := (m k).getD 0
theorem rf_mt_s {m : rf_M} {k l : Nat} (h : m k = some l) : rf_mt m k = l := by unfold rf_mt; rw [h]; rfl
noncomputable def rf_LE (a e : Nat → Int32) (m : rf_M) (i j : Nat) : Int32 :=
  if rf_ct (rf_C m i j) j = 0 then e 6 + e 7 * nI (rf_ct (rf_U m i j) j) + rf_en a e i j
  else if rf_ct (rf_C m i j) j = 1 then rf_on a e i j (rf_la (rf_C m i j) i j) (rf_mt m (rf_la (rf_C m i j) i j))
  else e 13 + e 14 * nI (rf_ct (rf_C m i j) j + 1) + e 15 * nI (rf_ct (rf_U m i j) j) + rf_en a e i j + rf_sm (rf_C m i j) (fun k => rf_en a e k (rf_mt m k)) j
/-- (i, j) inside no other pair -/
def rf_O (m : rf_M) (i j : Nat) : Prop := ∀ p q, p < i → m p = some q → ¬ j < q
noncomputable def rf_EN (a e : Nat → Int32) (m : rf_M) : Nat → Int32
  | 0 => 0
  | i + 1 => (m i).elim (rf_EN a e m i) (fun j => if i < j then (if rf_d (rf_O m i j) = true then rf_EN a e m i + rf_LE a e m i j + rf_en a e i j else rf_EN a e m i + rf_LE a e m i j) else rf_EN a e m i)
theorem rf_EN_n {a e : Nat → Int32} {m : rf_M} {i : Nat} (h : m i = none) : rf_EN a e m (i + 1) = rf_EN a e m i := by
  simp only [rf_EN]; rw [h]; rfl
theorem rf_EN_d {a e : Nat → Int32} {m : rf_M} {i j : Nat} (h : m i = some j) (hj : ¬ i < j) : rf_EN a e m (i + 1) = rf_EN a e m i := by
  simp only [rf_EN]; rw [h]; exact if_neg hj
theorem rf_EN_o {a e : Nat → Int32} {m : rf_M} {i j : Nat} (h : m i = some j) (hj : i < j) (ho : rf_O m i j) : rf_EN a e m (i + 1) = rf_EN a e m i + rf_LE a e m i j + rf_en a e i j := by
  simp only [rf_EN]; rw [h]; exact (if_pos hj).trans (if_pos (rf_dt ho))
theorem rf_EN_i {a e : Nat → Int32} {m : rf_M} {i j : Nat} (h : m i = some j) (hj : i < j) (ho : ¬ rf_O m i j) : rf_EN a e m (i + 1) = rf_EN a e m i + rf_LE a e m i j := by
  simp only [rf_EN]; rw [h]; exact (if_pos hj).trans (if_neg (rf_df ho))
theorem rf_EN_0 (a e : Nat → Int32) : ∀ i, rf_EN a e rf_0 i = 0
  | 0 => rfl
  | i + 1 => by rw [rf_EN_n (m := rf_0) rfl]; exact rf_EN_0 a e i
/-! X's scan of a loop: what passed says -/
def rf_PA (m : rf_M) (i j p pa : Nat) : Prop :=
  (pa ≤ p ∧ ∀ r q, i < r → r < p → m r = some q → q < p) ∨ (∃ k l, pa = l + 1 ∧ i < k ∧ k < p ∧ p ≤ l ∧ m k = some l ∧ rf_I m i j k l)
theorem rf_PA_0 {m : rf_M} {i j : Nat} : rf_PA m i j (i + 1) (i + 1) := Or.inl ⟨Nat.le_refl _, fun r q h1 h2 => by omega⟩
theorem rf_PA_1 {n : Nat} {m : rf_M} {i j p pa l : Nat} (hW : rf_W n m) (hij : m i = some j) (hi : i < p) (hp : p < j) (h : rf_PA m i j p pa) (hpa : pa ≤ p) (hm : m p = some l) (hl : p < l) : rf_C m i j p ∧ ¬ rf_U m i j p ∧ rf_PA m i j (p + 1) (l + 1) := by
  have hlj := (hW.2 i j p l hij hm hi hp).2
  have hI : rf_I m i j p l := by
    rcases h with ⟨-, h⟩ | ⟨k, l', h1, h2, h3, h4, -⟩
    · refine ⟨hi, hlj, fun r q r1 r2 r3 => ?_⟩
      have := h r q r1 r2 r3
      omega
    · omega
  refine ⟨⟨l, hm, hl, hI⟩, fun z => ?_, Or.inr ⟨p, l, rfl, hi, by omega, by omega, hm, hI⟩⟩
  have := z.2.1
  rw [hm] at this; cases this
theorem rf_PA_2 {n : Nat} {m : rf_M} {i j p pa : Nat} (hW : rf_W n m) (hij : m i = some j) (hi : i < p) (hp : p < j) (h : rf_PA m i j p pa) (hpa : pa ≤ p) (hm : ∀ l, m p = some l → ¬ p < l) : ¬ rf_C m i j p ∧ rf_U m i j p ∧ rf_PA m i j (p + 1) pa := by
  rcases h with ⟨-, h⟩ | ⟨k, l', h1, h2, h3, h4, -⟩
  · have hn : m p = none := by
      cases e : m p with
      | none => rfl
      | some l =>
        exfalso
        have a1 := hm l e
        obtain ⟨-, -, a2, a3⟩ := hW.1 p l e
        have a4 := hW.2 i j p l hij e hi hp
        have := h l p a4.1 (by omega) a3
        omega
    refine ⟨fun ⟨l, z, _⟩ => (by rw [hn] at z; cases z), ⟨hi, hn, fun ⟨k, l, z1, z2, z3, z4, _⟩ => ?_⟩, Or.inl ⟨by omega, fun r q r1 r2 r3 => ?_⟩⟩
    · have := h k l z1 z2 z3
      omega
    · by_cases e : r = p
      · rw [e, hn] at r3; cases r3
      · have := h r q r1 (by omega) r3
        omega
  · omega
theorem rf_PA_3 {n : Nat} {m : rf_M} {i j p pa : Nat} (hW : rf_W n m) (hij : m i = some j) (hi : i < p) (hp : p < j) (h : rf_PA m i j p pa) (hpa : p < pa) : ¬ rf_C m i j p ∧ ¬ rf_U m i j p ∧ rf_PA m i j (p + 1) pa := by
  rcases h with ⟨h, -⟩ | ⟨k, l, h1, h2, h3, h4, h5, h6⟩
  · omega
  · obtain ⟨-, -, a2, a3⟩ := hW.1 k l h5
    refine ⟨fun ⟨q, z1, z2, z3⟩ => ?_, fun ⟨z1, z2, z3⟩ => z3 ⟨k, l, h2, h3, h5, ?_, h6⟩, ?_⟩
    · by_cases e : p = l
      · rw [e, a3] at z1; cases z1; omega
      · have b := hW.2 k l p q h5 z1 h3 (by omega)
        exact z3.2.2 k l h2 h3 h5 ⟨b.2, h6.2.1⟩
    · by_cases e : p = l
      · rw [e, a3] at z2; cases z2
      · omega
    · by_cases e : p = l
      · refine Or.inl ⟨by omega, fun r q r1 r2 r3 => ?_⟩
        rcases Nat.lt_or_ge q (p + 1) with z | z
        · exact z
        · exfalso
          have b : q < j := (hW.2 i j r q hij r3 r1 (by omega)).2
          rcases Nat.lt_trichotomy r k with c | c | c
          · exact h6.2.2 r q r1 c r3 ⟨by omega, b⟩
          · rw [c, h5] at r3; cases r3; omega
          · by_cases d : r = l
            · rw [d, a3] at r3; cases r3; omega
            · have := hW.2 k l r q h5 r3 c (by omega)
              omega
      · exact Or.inr ⟨k, l, h1, h2, by omega, by omega, h5, h6⟩
def rf_PO (m : rf_M) (i o : Nat) : Prop :=
  (o ≤ i ∧ ∀ r q, r < i → m r = some q → q < i) ∨ (∃ k l, o = l + 1 ∧ k < i ∧ i ≤ l ∧ m k = some l ∧ rf_O m k l)
theorem rf_PO_0 {m : rf_M} : rf_PO m 0 0 := Or.inl ⟨Nat.le_refl _, fun r q h => by omega⟩
theorem rf_PO_1 {m : rf_M} {i j o : Nat} (h : rf_PO m i o) (ho : o ≤ i) (hm : m i = some j) (hj : i < j) : rf_O m i j ∧ rf_PO m (i + 1) (j + 1) := by
  have hO : rf_O m i j := by
    rcases h with ⟨-, h⟩ | ⟨k, l, h1, h2, h3, -⟩
    · intro p q h1 h2
      have := h p q h1 h2
      omega
    · omega
  exact ⟨hO, Or.inr ⟨i, j, rfl, by omega, by omega, hm, hO⟩⟩
theorem rf_PO_2 {n : Nat} {m : rf_M} {i j o : Nat} (hW : rf_W n m) (h : rf_PO m i o) (ho : i < o) (hm : m i = some j) (hj : i < j) : ¬ rf_O m i j ∧ rf_PO m (i + 1) o := by
  rcases h with ⟨h, -⟩ | ⟨k, l, h1, h2, h3, h4, h5⟩
  · omega
  · obtain ⟨-, -, a2, a3⟩ := hW.1 k l h4
    have e : i ≠ l := fun e => by rw [e, a3] at hm; cases hm; omega
    have b := hW.2 k l i j h4 hm h2 (by omega)
    exact ⟨fun z => z k l h2 h4 b.2, Or.inr ⟨k, l, h1, by omega, by omega, h4, h5⟩⟩
theorem rf_PO_3 {n : Nat} {m : rf_M} {i o : Nat} (hW : rf_W n m) (h : rf_PO m i o) (hm : ∀ l, m i = some l → ¬ i < l) : rf_PO m (i + 1) o := by
  rcases h with ⟨h0, h⟩ | ⟨k, l, h1, h2, h3, h4, h5⟩
  · refine Or.inl ⟨by omega, fun r q r1 r2 => ?_⟩
    by_cases e : r = i
    · rw [e] at r2
      have := hm q r2
      omega
    · have := h r q (by omega) r2
      omega
  · obtain ⟨-, -, a2, a3⟩ := hW.1 k l h4
    by_cases e : i = l
    · refine Or.inl ⟨by omega, fun r q r1 r2 => ?_⟩
      rcases Nat.lt_or_ge q (i + 1) with z | z
      · exact z
      · exfalso
        rcases Nat.lt_trichotomy r k with c | c | c
        · exact h5 r q c r2 (by omega)
        · rw [c, h4] at r2; cases r2; omega
        · by_cases d : r = l
          · rw [d, a3] at r2; cases r2; omega
          · have := hW.2 k l r q h4 r2 c (by omega)
            omega
    · exact Or.inr ⟨k, l, h1, by omega, by omega, h4, h5⟩
end
section
/-! partner maps as arrays: z is the mark of a free base (-3 for X, -1 for Y); t what stands behind the 14 cells -/
def rf_c (z : Int32) (t : Nat → Int32) (m : rf_M) : Nat → Int32 := fun i => if i < 14 then (m i).elim z nI else t i
theorem rf_c_n {z : Int32} {t : Nat → Int32} {m : rf_M} {i : Nat} (hi : i < 14) (h : m i = none) : rf_c z t m i = z := by
  unfold rf_c; rw [if_pos hi, h]; rfl
theorem rf_c_s {z : Int32} {t : Nat → Int32} {m : rf_M} {i q : Nat} (hi : i < 14) (h : m i = some q) : rf_c z t m i = nI q := by
  unfold rf_c; rw [if_pos hi, h]; rfl
theorem rf_c_j {z : Int32} {t : Nat → Int32} {m : rf_M} {p q : Nat} (hp : p < 14) (hq : q < 14) : upd (upd (rf_c z t m) p (nI q)) q (nI p) = rf_c z t (rf_join m p q) := by
  funext i
  unfold upd rf_c rf_join
  by_cases h1 : i = q
  · subst h1; simp [hq]
  · by_cases h2 : i = p
    · subst h2; simp [h1, hp]
    · simp [h1, h2]
theorem rf_c_p {z : Int32} {t : Nat → Int32} {m : rf_M} {p q : Nat} (hp : p < 14) (hq : q < 14) : upd (upd (rf_c z t m) p z) q z = rf_c z t (rf_sep m p q) := by
  funext i
  unfold upd rf_c rf_sep
  by_cases h1 : i = q
  · subst h1; simp [hq]
  · by_cases h2 : i = p
    · subst h2; simp [h1, hp]
    · simp [h1, h2]
theorem rf_c_q {z : Int32} {t : Nat → Int32} {m : rf_M} {p q : Nat} (hp : p < 14) (hq : q < 14) : upd (upd (rf_c z t m) q z) p z = rf_c z t (rf_sep m p q) := by
  funext i
  unfold upd rf_c rf_sep
  by_cases h1 : i = q
  · subst h1
    by_cases h2 : i = p
    · subst h2; simp [hp]
    · simp [h2, hq]
  · by_cases h2 : i = p
    · subst h2; simp [h1, hp]
    · simp [h1, h2]
theorem rf_c_u {z : Int32} {t : Nat → Int32} {m : rf_M} {p : Nat} (hp : p < 14) (h : m p = none) : upd (rf_c z t m) p z = rf_c z t m := by
  funext i
  unfold upd rf_c
  by_cases h1 : i = p
  · subst h1; simp [hp, h]
  · simp [h1]
/-- the marks are below 0 -/
def rf_z (z : Int32) : Prop := z.toInt < 0
theorem rf_z3 : rf_z (-3) := by unfold rf_z; decide
theorem rf_z1 : rf_z (-1) := by unfold rf_z; decide
theorem rf_zlt {z : Int32} (hz : rf_z z) {p : Nat} (hp : p < 2 ^ 31) : z < nI p := by
  rw [Int32.lt_iff_toInt_lt, nI_toInt hp]; unfold rf_z at hz; omega
theorem rf_zle {z : Int32} (hz : rf_z z) {p : Nat} (hp : p < 2 ^ 31) : z ≤ nI p := by
  rw [Int32.le_iff_toInt_le, nI_toInt hp]; unfold rf_z at hz; omega
theorem rf_znlt {z : Int32} (hz : rf_z z) {p : Nat} (hp : p < 2 ^ 31) : ¬ nI p < z := by
  rw [Int32.lt_iff_toInt_lt, nI_toInt hp]; unfold rf_z at hz; omega
theorem rf_znle {z : Int32} (hz : rf_z z) {p : Nat} (hp : p < 2 ^ 31) : ¬ nI p ≤ z := by
  rw [Int32.le_iff_toInt_le, nI_toInt hp]; unfold rf_z at hz; omega
theorem rf_zne {z : Int32} (hz : rf_z z) {p : Nat} (hp : p < 2 ^ 31) : ¬ nI p = z := by
  intro e
  have := nI_toInt hp
  rw [e] at this; unfold rf_z at hz; omega
theorem rf_z0 {z : Int32} (hz : rf_z z) : z < 0 := by
  rw [Int32.lt_iff_toInt_lt]; exact hz
/-- the cells below i set to z -/
def rf_ini (z : Int32) (t : Nat → Int32) (i : Nat) : Nat → Int32 := fun j => if j < i then z else t j
theorem rf_ini_0 {z : Int32} {t : Nat → Int32} : rf_ini z t 0 = t := by funext j; simp [rf_ini]
theorem rf_ini_s {z : Int32} {t : Nat → Int32} {i : Nat} : upd (rf_ini z t i) i z = rf_ini z t (i + 1) := by
  funext j
  unfold upd rf_ini
  by_cases h : j = i
  · subst h; simp
  · by_cases h2 : j < i
    · rw [if_neg h, if_pos h2, if_pos (by omega)]
    · rw [if_neg h, if_neg h2, if_neg (by omega)]
theorem rf_ini_e {z : Int32} {t : Nat → Int32} : rf_ini z t 14 = rf_c z t rf_0 := by
  funext j
  unfold rf_ini rf_c rf_0
  rfl
/-- the cells below i copied from w -/
def rf_cpy (w t : Nat → Int32) (i : Nat) : Nat → Int32 := fun j => if j < i then w j else t j
theorem rf_cpy_0 {w t : Nat → Int32} : rf_cpy w t 0 = t := by funext j; simp [rf_cpy]
theorem rf_cpy_s {w t : Nat → Int32} {i : Nat} : upd (rf_cpy w t i) i (w i) = rf_cpy w t (i + 1) := by
  funext j
  unfold upd rf_cpy
  by_cases h : j = i
  · subst h; simp
  · by_cases h2 : j < i
    · rw [if_neg h, if_pos h2, if_pos (by omega)]
    · rw [if_neg h, if_neg h2, if_neg (by omega)]
theorem rf_cpy_e {z : Int32} {t b : Nat → Int32} {m : rf_M} : rf_cpy (rf_c z t m) b 14 = rf_c z b m := by
  funext j
  unfold rf_cpy rf_c
  by_cases h : j < 14
  · rw [if_pos h, if_pos h, if_pos h]
  · rw [if_neg h, if_neg h]
end
section
/-! X: the small methods -/
def rf_g (x z : Int32) : Int32 := if x = 1 ∧ z = 2 then 0 else if x = 0 ∧ z = 3 then 1 else if x = 2 ∧ z = 3 then 2 else -1
def rf_h (a b : Int32) : Int32 := if (a = 1 ∧ b = 2) ∨ (a = 2 ∧ b = 1) then 0 else if (a = 0 ∧ b = 3) ∨ (a = 3 ∧ b = 0) then 1 else if (a = 2 ∧ b = 3) ∨ (a = 3 ∧ b = 2) then 2 else -1
theorem rf_h_st {ba : Nat → Int32} {i j : Nat} : rf_h (ba i) (ba j) = rf_st ba i j := rfl
theorem rf_h_le {a b : Int32} (h : b ≤ a) : rf_h a b = rf_g b a := by
  have k1 : ¬ (a = 1 ∧ b = 2) := fun ⟨x, y⟩ => by rw [x, y] at h; exact absurd h (by decide)
  have k2 : ¬ (a = 0 ∧ b = 3) := fun ⟨x, y⟩ => by rw [x, y] at h; exact absurd h (by decide)
  have k3 : ¬ (a = 2 ∧ b = 3) := fun ⟨x, y⟩ => by rw [x, y] at h; exact absurd h (by decide)
  unfold rf_h rf_g
  simp only [k1, k2, k3, false_or, and_comm]
theorem rf_h_gt {a b : Int32} (h : ¬ b ≤ a) : rf_h a b = rf_g a b := by
  have k1 : ¬ (a = 2 ∧ b = 1) := fun ⟨x, y⟩ => by rw [x, y] at h; exact absurd h (by decide)
  have k2 : ¬ (a = 3 ∧ b = 0) := fun ⟨x, y⟩ => by rw [x, y] at h; exact absurd h (by decide)
  have k3 : ¬ (a = 3 ∧ b = 2) := fun ⟨x, y⟩ => by rw [x, y] at h; exact absurd h (by decide)
  unfold rf_h rf_g
  simp only [k1, k2, k3, or_false]
section
variable {mn sz ls tl : Int32} {ba bl te tr wa be : Nat → Int32} {n mm : Nat}
theorem rx_s61 {post : Int32 → Prop} {x z : Int32} (h : post (rf_g x z)) : wX_strength_61 post x z mn sz ls tl ba bl te tr wa be := by
  unfold wX_strength_61 wX_strength_76 wX_strength_88
  unfold rf_g at h
  by_cases c1 : x = 1
  · subst c1
    by_cases c2 : z = 2
    · subst c2; exact br_t rfl (br_t rfl h)
    · rw [if_neg (fun y => c2 y.2), if_neg (fun y => absurd y.1 (by decide)), if_neg (fun y => absurd y.1 (by decide))] at h
      exact br_t rfl (br_f c2 (br_f (by decide) (br_f (by decide) h)))
  · rw [if_neg (fun y => c1 y.1)] at h
    refine br_f c1 ?_
    by_cases c3 : x = 0
    · subst c3
      by_cases c4 : z = 3
      · subst c4; exact br_t rfl (br_t rfl h)
      · rw [if_neg (fun y => c4 y.2), if_neg (fun y => absurd y.1 (by decide))] at h
        exact br_t rfl (br_f c4 (br_f (by decide) h))
    · rw [if_neg (fun y => c3 y.1)] at h
      refine br_f c3 ?_
      by_cases c5 : x = 2
      · subst c5
        by_cases c4 : z = 3
        · subst c4; exact br_t rfl (br_t rfl h)
        · rw [if_neg (fun y => c4 y.2)] at h
          exact br_t rfl (br_f c4 h)
      · rw [if_neg (fun y => c5 y.1)] at h
        exact br_f c5 h
theorem rx_strength {post : Int32 → Prop} {i j : Nat} (hi : i < 14) (hj : j < 14) (h : post (rf_st ba i j)) : wpX_strength post (mn, sz, ls, tl, ba, bl, te, tr, wa, be) (nI i) (nI j) := by
  have vi : vp_in (nI i) 14 := vp_in_nI hi (by omega)
  have vj : vp_in (nI j) 14 := vp_in_nI hj (by omega)
  have ci : (nI i).toNatClampNeg = i := nI_clamp (by omega)
  have cj : (nI j).toNatClampNeg = j := nI_clamp (by omega)
  unfold wpX_strength wX_strength_30
  simp only [ci, cj]
  rw [← rf_h_st] at h
  by_cases o : ba j ≤ ba i
  · rw [rf_h_le o] at h
    exact ⟨vi, vj, br_t o ⟨vj, vi, vj, br_t o ⟨vi, rx_s61 h⟩⟩⟩
  · rw [rf_h_gt o] at h
    exact ⟨vi, vj, br_f o ⟨vi, vi, vj, br_f o ⟨vj, rx_s61 h⟩⟩⟩
theorem rx_isBase {post : Int32 → Prop} {x : Int32} (hn : n ≤ 14) (h1 : ∀ j, j < n → x = nI j → post 1) (h0 : (∀ j, j < n → x ≠ nI j) → post 0) : wpX_isBase post (mn, nI n, ls, tl, ba, bl, te, tr, wa, be) x := by
  unfold wpX_isBase
  rcases pk_ix x (n := n) (by omega) with c | c | ⟨j, c, rfl⟩
  · refine br_t c (h0 fun j hj e => ?_)
    rw [e] at c; exact nI_pos (by omega) c
  · refine br_f ?_ (br_t c (h0 fun j hj e => ?_))
    · intro z
      have := nI_toInt (n := n) (by omega)
      rw [Int32.le_iff_toInt_le] at c
      rw [Int32.lt_iff_toInt_lt, show (0 : Int32).toInt = 0 from by decide] at z
      omega
    · rw [e] at c; exact nI_ge hj (by omega) c
  · exact br_f (nI_pos (by omega)) (br_f (nI_ge c (by omega)) (h1 j c rfl))
/-- two bases can pair: the test that both sides make -/
def rf_cp (mm : Nat) (ba bl : Nat → Int32) (i j : Nat) : Prop := i + mm + 1 ≤ j ∧ bl i = 0 ∧ bl j = 0 ∧ rf_st ba i j ≠ -1
theorem rf_sub1 {i j : Nat} (h : i < j) : nI j - nI i - 1 = nI (j - i - 1) := by
  rw [pk_sub (by omega)]
  obtain ⟨k, hk⟩ : ∃ k, j - i = k + 1 := ⟨j - i - 1, by omega⟩
  rw [hk, nI_pred]; rfl
theorem rx_canPair {post : Int32 → Prop} {x y : Int32} (hn : n ≤ 14) (hm : mm ≤ 4)
    (h1 : ∀ i j, x = nI i → y = nI j → i < j → j < n → rf_cp mm ba bl i j → post 1)
    (h0 : (∀ i j, x = nI i → y = nI j → i < j → j < n → ¬ rf_cp mm ba bl i j) → post 0) : wpX_canPair post (nI mm, nI n, ls, tl, ba, bl, te, tr, wa, be) x y := by
  unfold wpX_canPair
  refine rx_isBase hn (fun i hi ex => ?_) (fun hno => ?_)
  · refine br_f (by decide) ?_
    refine rx_isBase hn (fun j hj ey => ?_) (fun hno => ?_)
    · refine br_f (by decide) ?_
      subst ex ey
      have inj : ∀ i' j', nI i = nI i' → nI j = nI j' → i' < j' → j' < n → i' = i ∧ j' = j := by
        intro i' j' e1 e2 h3 h4
        exact ⟨((nI_eq (by omega) (by omega)).mp e1).symm, ((nI_eq (by omega) (by omega)).mp e2).symm⟩
      have no : ¬ (i < j ∧ rf_cp mm ba bl i j) → post 0 := fun z => h0 (fun i' j' e1 e2 h3 h4 h5 => by
        obtain ⟨rfl, rfl⟩ := inj i' j' e1 e2 h3 h4
        exact z ⟨h3, h5⟩)
      refine pk_lt i j (fun hij => ?_) (fun hij => no (fun z => by omega))
      rw [rf_sub1 hij]
      refine pk_lt (j - i - 1) mm (fun hd => no (fun z => by have := z.2.1; omega)) (fun hd => ?_)
      have ci : (nI i).toNatClampNeg = i := nI_clamp (by omega)
      have cj : (nI j).toNatClampNeg = j := nI_clamp (by omega)
      refine ⟨vp_in_nI (by omega) (by omega), ?_⟩
      rw [ci]
      refine br_c (fun bi => ⟨vp_in_nI (by omega) (by omega), ?_⟩) (fun bi => no (fun z => bi z.2.2.1))
      rw [cj]
      refine br_c (fun bj => ?_) (fun bj => no (fun z => bj z.2.2.2.1))
      refine rx_strength (by omega) (by omega) ?_
      refine br_c (fun s => no (fun z => z.2.2.2.2 s)) (fun s => h1 i j rfl rfl hij hj ⟨by omega, bi, bj, s⟩)
    · refine br_t rfl (h0 fun i' j' e1 e2 h3 h4 => absurd e2 (hno j' h4))
  · refine br_t rfl (h0 fun i' j' e1 e2 h3 h4 => absurd e1 (hno i' (by omega)))
theorem rx_end {post : Int32 → Prop} {i j : Nat} (hi : i < 14) (hj : j < 14) (h : post (rf_en ba te i j)) : wpX_endEnergy post (mn, sz, ls, tl, ba, bl, te, tr, wa, be) (nI i) (nI j) := by
  unfold wpX_endEnergy
  refine rx_strength hi hj ?_
  unfold rf_en at h
  by_cases s : rf_st ba i j = 0
  · rw [if_pos s] at h; exact br_t s h
  · rw [if_neg s] at h; exact br_f s h
theorem rx_k21 {post : Int32 → Prop} {x z : Int32} (h : post (if x = 0 then (if z = 0 then te 0 else if z = 1 then te 1 else te 2) else if x = 1 then (if z = 1 then te 3 else te 4) else te 5)) : wX_stackEnergy_21 post x z mn sz ls tl ba bl te tr wa be := by
  unfold wX_stackEnergy_21
  by_cases c1 : x = 0
  · rw [if_pos c1] at h
    refine br_t c1 ?_
    by_cases c2 : z = 0
    · rw [if_pos c2] at h; exact br_t c2 h
    · rw [if_neg c2] at h
      refine br_f c2 ?_
      by_cases c3 : z = 1
      · rw [if_pos c3] at h; exact br_t c3 h
      · rw [if_neg c3] at h; exact br_f c3 h
  · rw [if_neg c1] at h
    refine br_f c1 ?_
    by_cases c2 : x = 1
    · rw [if_pos c2] at h
      refine br_t c2 ?_
      by_cases c3 : z = 1
      · rw [if_pos c3] at h; exact br_t c3 h
      · rw [if_neg c3] at h; exact br_f c3 h
    · rw [if_neg c2] at h; exact br_f c2 h
theorem rx_stack {post : Int32 → Prop} {s t : Int32} (h : post (rf_sk te s t)) : wpX_stackEnergy post (mn, sz, ls, tl, ba, bl, te, tr, wa, be) s t := by
  unfold wpX_stackEnergy wX_stackEnergy_10
  unfold rf_sk at h
  by_cases c : t ≤ s
  · have d : ¬ s < t := Int32.not_lt.mpr c
    simp only [if_neg d] at h
    exact br_t c (br_t c (rx_k21 h))
  · have d : s < t := Int32.not_le.mp c
    simp only [if_pos d] at h
    exact br_f c (br_f c (rx_k21 h))
theorem rx_i51 {post : Int32 → Prop} {en : Int32} {x y : Nat} (hx : x < 14) (hy : y < 14) (hh : ¬ (x = 0 ∧ y = 0))
    (h : post (if x = 0 ∨ y = 0 then te 8 + te 9 * nI (x + y) + en else te 10 + te 11 * nI (x + y) + te 12 * nI (if y < x then x - y else y - x) + en)) : wX_innerLoopEnergy_51 post en (nI x) (nI y) mn sz ls tl ba bl te tr wa be := by
  unfold wX_innerLoopEnergy_51 wX_innerLoopEnergy_61 wX_innerLoopEnergy_106
  rw [nI_add]
  refine pk_eq x 0 (fun c => ?_) (fun c => ?_)
  · rw [if_pos (Or.inl c)] at h; exact h
  · refine pk_eq y 0 (fun d => ?_) (fun d => ?_)
    · rw [if_pos (Or.inr d)] at h; exact h
    · rw [if_neg (fun z => z.elim c d)] at h
      refine pk_le x y (fun e => ?_) (fun e => ?_)
      · rw [if_neg (by omega)] at h; rw [pk_sub e]; exact h
      · rw [if_pos e] at h; rw [pk_sub (by omega)]; exact h
theorem rx_inner {post : Int32 → Prop} {i j k l : Nat} (h1 : i < k) (h2 : k < 14) (h3 : l < j) (h4 : j < 14) (h : post (rf_on ba te i j k l)) : wpX_innerLoopEnergy post (mn, sz, ls, tl, ba, bl, te, tr, wa, be) (nI i) (nI j) (nI k) (nI l) (rf_en ba te i j + rf_en ba te k l) := by
  unfold wpX_innerLoopEnergy
  unfold rf_on at h
  refine nm_r (rf_sub1 h1) (nm_r (rf_sub1 h3) ?_)
  by_cases c : k - i - 1 = 0 ∧ j - l - 1 = 0
  · rw [if_pos c] at h
    refine pk_eq (k - i - 1) 0 (fun c1 => ?_) (fun c1 => absurd c.1 c1)
    refine pk_eq (j - l - 1) 0 (fun c2 => ?_) (fun c2 => absurd c.2 c2)
    exact rx_strength (by omega) (by omega) (rx_strength (by omega) (by omega) (rx_stack h))
  · rw [if_neg c] at h
    have g := rx_i51 (mn := mn) (sz := sz) (ls := ls) (tl := tl) (ba := ba) (bl := bl) (te := te) (tr := tr) (wa := wa) (be := be) (post := post) (en := rf_en ba te i j + rf_en ba te k l) (x := k - i - 1) (y := j - l - 1) (by omega) (by omega) c h
    exact pk_eq (k - i - 1) 0 (fun c1 => pk_eq (j - l - 1) 0 (fun c2 => absurd ⟨c1, c2⟩ c) (fun c2 => g)) (fun c1 => g)
theorem rx_copy {post : SX → Prop} (h : post (mn, sz, ls, tl, ba, bl, te, tr, wa, rf_cpy wa be 14)) : wpX_copyWalkToBest post (mn, sz, ls, tl, ba, bl, te, tr, wa, be) := by
  unfold wpX_copyWalkToBest
  have key : ∀ d i, i + d = 14 → wX_copyWalkToBest_2 post mn sz ls tl (d + 1) (nI i) ba bl te tr wa (rf_cpy wa be i) := by
    intro d
    induction d with
    | zero => intro i hi; have e : i = 14 := by omega
              subst e; exact br_t (by decide) h
    | succ d ih =>
      intro i hi
      have ci : (nI i).toNatClampNeg = i := nI_clamp (by omega)
      have vi : vp_in (nI i) 14 := vp_in_nI (by omega) (by omega)
      refine br_f (nI_ge (b := 14) (by omega) (by decide)) ⟨vi, vi, nm_r (by rw [ci, rf_cpy_s]) (nm_r (nI_1 i) (ih (i + 1) (by omega)))⟩
  refine ⟨15, ?_⟩
  have g := key 14 0 rfl
  rw [rf_cpy_0] at g
  exact g
end
end
section
/-! X: methods with an array parameter, a print for walk and one for trial (written by wip/whole/gen07.py) -/
section
variable {mn sz ls tl : Int32} {ba bl te tr be t : Nat → Int32} {n mm : Nat} {m : rf_M}
theorem rx_sep_walk {post : SX → Prop} {p : Nat} (hp : p < 14) (hb : ∀ q, m p = some q → q < 14)
    (h0 : m p = none → post (mn, sz, ls, tl, ba, bl, te, tr, rf_c (-3) t m, be)) (h1 : ∀ q, m p = some q → post (mn, sz, ls, tl, ba, bl, te, tr, rf_c (-3) t (rf_sep m p q), be)) : wpX_separate__walk post (mn, sz, ls, tl, ba, bl, te, tr, rf_c (-3) t m, be) (nI p) := by
  have cp : (nI p).toNatClampNeg = p := nI_clamp (by omega)
  have vp : vp_in (nI p) 14 := vp_in_nI hp (by omega)
  unfold wpX_separate__walk
  rw [cp]
  cases hm : m p with
  | none =>
    refine ⟨vp, nm_r (rf_c_n hp hm) (br_t (rf_z0 rf_z3) (h0 hm))⟩
  | some q =>
    have hq := hb q hm
    have cq : (nI q).toNatClampNeg = q := nI_clamp (by omega)
    refine ⟨vp, nm_r (rf_c_s hp hm) (br_f (nI_pos (by omega)) ⟨vp, nm_e ⟨vp_in_nI hq (by omega), nm_r (by rw [cq, rf_c_p hp hq]) (h1 q hm)⟩⟩)⟩
theorem rx_join_walk {post : SX → Prop} {p q : Nat} (hp : p < 14) (hq : q < 14) (h : post (mn, sz, ls, tl, ba, bl, te, tr, rf_c (-3) t (rf_join m p q), be)) : wpX_join__walk post (mn, sz, ls, tl, ba, bl, te, tr, rf_c (-3) t m, be) (nI p) (nI q) := by
  have cp : (nI p).toNatClampNeg = p := nI_clamp (by omega)
  have cq : (nI q).toNatClampNeg = q := nI_clamp (by omega)
  unfold wpX_join__walk
  rw [cp, cq]
  exact ⟨vp_in_nI hp (by omega), nm_e ⟨vp_in_nI hq (by omega), nm_r (rf_c_j hp hq) h⟩⟩
theorem rx_clear_walk {post : SX → Prop} {w : Nat → Int32} (h : post (mn, sz, ls, tl, ba, bl, te, tr, rf_c (-3) w rf_0, be)) : wpX_clear__walk post (mn, sz, ls, tl, ba, bl, te, tr, w, be) := by
  unfold wpX_clear__walk
  have key : ∀ d i, i + d = 14 → wX_clear__walk_2 post mn sz ls tl (d + 1) (nI i) ba bl te tr (rf_ini (-3) w i) be := by
    intro d
    induction d with
    | zero =>
      intro i hi
      have e : i = 14 := by omega
      subst e
      refine br_t (by decide) ?_
      rw [rf_ini_e]; exact h
    | succ d ih =>
      intro i hi
      have ci : (nI i).toNatClampNeg = i := nI_clamp (by omega)
      have vi : vp_in (nI i) 14 := vp_in_nI (by omega) (by omega)
      refine br_f (nI_ge (b := 14) (by omega) (by decide)) ⟨vi, nm_r (by rw [ci, rf_ini_s]) (nm_r (nI_1 i) (ih (i + 1) (by omega)))⟩
  refine ⟨15, ?_⟩
  have g := key 14 0 rfl
  rw [rf_ini_0] at g
  exact g
theorem rx_fits_walk {post : Int32 → Prop} {i j : Nat} (hij : i < j) (hj : j < 14) (hb : ∀ p q, m p = some q → q < 14)
    (h1 : rf_F m i j → post 1) (h0 : ¬ rf_F m i j → post 0) : wpX_fits__walk post (mn, sz, ls, tl, ba, bl, te, tr, rf_c (-3) t m, be) (nI i) (nI j) := by
  have ci : (nI i).toNatClampNeg = i := nI_clamp (by omega)
  have cj : (nI j).toNatClampNeg = j := nI_clamp (by omega)
  unfold wpX_fits__walk
  rw [ci, cj]
  cases hmi : m i with
  | some q => exact ⟨vp_in_nI (by omega) (by omega), br_f (by rw [rf_c_s (by omega) hmi]; exact rf_zne rf_z3 (by have := hb i q hmi; omega)) (h0 fun z => by rw [z.1] at hmi; cases hmi)⟩
  | none =>
    refine ⟨vp_in_nI (by omega) (by omega), br_t (rf_c_n (by omega) hmi) ⟨vp_in_nI (by omega) (by omega), ?_⟩⟩
    cases hmj : m j with
    | some q => exact br_f (by rw [rf_c_s (by omega) hmj]; exact rf_zne rf_z3 (by have := hb j q hmj; omega)) (h0 fun z => by rw [z.2.1] at hmj; cases hmj)
    | none =>
      refine br_t (rf_c_n (by omega) hmj) (nm_r (nI_1 i) ?_)
      have key : ∀ d p, p + d = j → i < p → (∀ r q, i < r → r < p → m r = some q → i ≤ q ∧ q ≤ j) → wX_fits__walk_23 post (nI i) (nI j) mn sz ls tl ba bl te tr (rf_c (-3) t m) be (d + 1) (nI p) := by
        intro d
        induction d with
        | zero =>
          intro p hp hi hall
          refine br_t (nI_le (by omega) (by omega)) (h1 ⟨hmi, hmj, fun r q r1 r2 r3 => hall r q r1 (by omega) r3⟩)
        | succ d ih =>
          intro p hp hi hall
          have cp : (nI p).toNatClampNeg = p := nI_clamp (by omega)
          refine br_f (nI_ge (by omega) (by omega)) ⟨vp_in_nI (by omega) (by omega), ?_⟩
          rw [cp]
          have nxt : (∀ q, m p = some q → i ≤ q ∧ q ≤ j) → ∀ r q, i < r → r < p + 1 → m r = some q → i ≤ q ∧ q ≤ j := by
            intro hq r q r1 r2 r3
            by_cases e : r = p
            · rw [e] at r3; exact hq q r3
            · exact hall r q r1 (by omega) r3
          cases hm : m p with
          | none =>
            refine nm_r (rf_c_n (by omega) hm) (br_t rfl (nm_r (nI_1 p) (ih (p + 1) (by omega) (by omega) (nxt fun q z => by rw [hm] at z; cases z))))
          | some q =>
            have hq := hb p q hm
            refine nm_r (rf_c_s (by omega) hm) (br_f (rf_zne rf_z3 (by omega)) ?_)
            refine pk_lt q i (fun c => h0 fun z => by have := z.2.2 p q hi (by omega) hm; omega) (fun c => ?_)
            refine pk_le q j (fun c2 => ?_) (fun c2 => h0 fun z => by have := z.2.2 p q hi (by omega) hm; omega)
            exact nm_r (nI_1 p) (ih (p + 1) (by omega) (by omega) (nxt fun q' z => by rw [hm] at z; cases z; exact ⟨c, c2⟩))
      exact ⟨_, key (j - (i + 1)) (i + 1) (by omega) (by omega) (fun r q r1 r2 => by omega)⟩
theorem rx_loop_walk {post : Int32 → Prop} {i j : Nat} (hn : n ≤ 14) (hW : rf_W n m) (hij : m i = some j) (hlt : i < j) (h : post (rf_LE ba te m i j)) : wpX_loopEnergy__walk post (mn, sz, ls, tl, ba, bl, te, tr, rf_c (-3) t m, be) (nI i) (nI j) := by
  obtain ⟨hi, hj, -, -⟩ := hW.1 i j hij
  unfold wpX_loopEnergy__walk
  refine rx_end (by omega) (by omega) (nm_r (nI_1 i) (nm_r (nI_1 i) ?_))
  have lo : ∀ k, k < i + 1 → ¬ rf_C m i j k := fun k hk ⟨l, z1, z2, z3⟩ => by have := z3.1; omega
  have lu : ∀ k, k < i + 1 → ¬ rf_U m i j k := fun k hk z => by have := z.1; omega
  have key : ∀ d p pa, p + d = j → i < p → pa ≤ 14 → rf_PA m i j p pa → wX_loopEnergy__walk_27 post (nI i) (nI j) mn sz ls tl ba bl te tr (rf_c (-3) t m) be (d + 1)
      (nI (rf_ct (rf_C m i j) p)) (nI (rf_ct (rf_U m i j) p)) (rf_en ba te i j + rf_sm (rf_C m i j) (fun k => rf_en ba te k (rf_mt m k)) p) (nI (rf_la (rf_C m i j) i p)) (nI pa) (nI p) := by
    intro d
    induction d with
    | zero =>
      intro p pa hp hip hpa hPA
      have e : p = j := by omega
      subst e
      have hc := rf_ct_le (rf_C m i p) p
      obtain ⟨o1, o2, o3⟩ := rf_one (P := rf_C m i p) (f := fun k => rf_en ba te k (rf_mt m k)) (i := i) p
      refine br_t (nI_le (Nat.le_refl _) (by omega)) ?_
      unfold rf_LE at h
      refine pk_eq (rf_ct (rf_C m i p) p) 0 (fun c => ?_) (fun c => ?_)
      · rw [if_pos c] at h
        rw [(o1 c).1, Int32.add_zero]; exact h
      · rw [if_neg c] at h
        refine pk_eq (rf_ct (rf_C m i p) p) 1 (fun c1 => ?_) (fun c1 => ?_)
        · rw [if_pos c1] at h
          obtain ⟨⟨l, l1, l2, l3⟩, q2⟩ := o2 (by omega)
          have hl := hW.1 _ _ l1
          have ck : (nI (rf_la (rf_C m i p) i p)).toNatClampNeg = rf_la (rf_C m i p) i p := nI_clamp (by omega)
          rw [o3 c1, ck, rf_c_s (by omega) l1]
          rw [rf_mt_s l1] at h
          show vp_in _ 14 ∧ wpX_innerLoopEnergy (fun r => post r) (mn, sz, ls, tl, ba, bl, te, tr, rf_c (-3) t m, be) (nI i) (nI p) (nI (rf_la (rf_C m i p) i p)) (nI l) (rf_en ba te i p + rf_en ba te (rf_la (rf_C m i p) i p) (rf_mt m (rf_la (rf_C m i p) i p)))
          rw [rf_mt_s l1]
          exact ⟨vp_in_nI (by omega) (by omega), rx_inner l3.1 (by omega) l3.2.1 (by omega) h⟩
        · rw [if_neg c1] at h
          rw [nI_1, ← Int32.add_assoc]; exact h
    | succ d ih =>
      intro p pa hp hip hpa hPA
      have cp : (nI p).toNatClampNeg = p := nI_clamp (by omega)
      refine br_f (nI_ge (by omega) (by omega)) ?_
      rw [cp]
      refine pk_lt p pa (fun c => ?_) (fun c => ?_)
      · obtain ⟨k1, k2, k3⟩ := rf_PA_3 hW hij hip (by omega) hPA c
        have g := ih (p + 1) pa (by omega) (by omega) hpa k3
        rw [rf_ct_f k1, rf_ct_f k2, rf_sm_f k1, rf_la_f k1] at g
        exact nm_r (nI_1 p) g
      · refine ⟨vp_in_nI (by omega) (by omega), ?_⟩
        by_cases hm : ∃ l, m p = some l ∧ p < l
        · obtain ⟨l, hm, hl⟩ := hm
          have hl2 := (hW.1 p l hm).2.1
          obtain ⟨k1, k2, k3⟩ := rf_PA_1 hW hij hip (by omega) hPA c hm hl
          have g := ih (p + 1) (l + 1) (by omega) (by omega) (by omega) k3
          rw [rf_ct_t k1, rf_ct_f k2, rf_sm_t k1, rf_la_t k1, ← Int32.add_assoc] at g
          rw [rf_c_s (by omega) hm]
          refine br_f (nI_ge hl (by omega)) (nm_r (nI_1 _) ⟨vp_in_nI (by omega) (by omega), rx_end (by omega) (by omega) (nm_e ⟨vp_in_nI (by omega) (by omega), nm_r (nI_1 l) (nm_r (nI_1 p) ?_)⟩)⟩)
          rw [rf_mt_s hm] at g
          exact g
        · have hm' : ∀ l, m p = some l → ¬ p < l := fun l z1 z2 => hm ⟨l, z1, z2⟩
          obtain ⟨k1, k2, k3⟩ := rf_PA_2 hW hij hip (by omega) hPA c hm'
          have g := ih (p + 1) pa (by omega) (by omega) hpa k3
          rw [rf_ct_f k1, rf_ct_t k2, rf_sm_f k1, rf_la_f k1] at g
          rw [rf_c_n (by omega) k2.2.1]
          exact br_t (rf_zle rf_z3 (by omega)) (nm_r (nI_1 _) (nm_r (nI_1 p) g))
  have g := key (j - (i + 1)) (i + 1) (i + 1) (by omega) (by omega) (by omega) rf_PA_0
  rw [rf_ct_0 _ lo, rf_ct_0 _ lu, rf_sm_0 _ lo, rf_la_0 _ lo, Int32.add_zero] at g
  exact ⟨_, g⟩
theorem rx_energy_walk {post : Int32 → Prop} (hn : n ≤ 14) (hW : rf_W n m) (h : post (rf_EN ba te m n)) : wpX_energyOf__walk post (mn, nI n, ls, tl, ba, bl, te, tr, rf_c (-3) t m, be) := by
  unfold wpX_energyOf__walk
  have key : ∀ d i o, i + d = n → o ≤ 14 → rf_PO m i o → wX_energyOf__walk_7 post mn (nI n) ls tl ba bl te tr (rf_c (-3) t m) be (d + 1) (rf_EN ba te m i) (nI o) (nI i) := by
    intro d
    induction d with
    | zero =>
      intro i o hi ho hPO
      have e : i = n := by omega
      subst e
      exact br_t (nI_le (Nat.le_refl _) (by omega)) h
    | succ d ih =>
      intro i o hi ho hPO
      have ci : (nI i).toNatClampNeg = i := nI_clamp (by omega)
      refine br_f (nI_ge (by omega) (by omega)) ⟨vp_in_nI (by omega) (by omega), ?_⟩
      rw [ci]
      by_cases hm : ∃ j, m i = some j ∧ i < j
      · obtain ⟨j, hm, hj⟩ := hm
        have hj2 := (hW.1 i j hm).2.1
        refine nm_r (rf_c_s (by omega) hm) (br_f (nI_ge hj (by omega)) (rx_loop_walk hn hW hm hj (nm_e ?_)))
        refine pk_lt i o (fun c => ?_) (fun c => ?_)
        · obtain ⟨k1, k2⟩ := rf_PO_2 hW hPO c hm hj
          have g := ih (i + 1) o (by omega) ho k2
          rw [rf_EN_i hm hj k1] at g
          exact nm_r (nI_1 i) g
        · obtain ⟨k1, k2⟩ := rf_PO_1 hPO c hm hj
          have g := ih (i + 1) (j + 1) (by omega) (by omega) k2
          rw [rf_EN_o hm hj k1] at g
          exact rx_end (by omega) (by omega) (nm_e (nm_r (nI_1 j) (nm_r (nI_1 i) g)))
      · have hm' : ∀ l, m i = some l → ¬ i < l := fun l z1 z2 => hm ⟨l, z1, z2⟩
        have g := ih (i + 1) o (by omega) ho (rf_PO_3 hW hPO hm')
        cases hmi : m i with
        | none =>
          rw [rf_EN_n hmi] at g
          exact nm_r (rf_c_n (by omega) hmi) (br_t (rf_zle rf_z3 (by omega)) (nm_r (nI_1 i) g))
        | some j =>
          have hj2 := (hW.1 i j hmi).2.1
          rw [rf_EN_d hmi (hm' j hmi)] at g
          exact nm_r (rf_c_s (by omega) hmi) (br_t (nI_le (by have := hm' j hmi; omega) (by omega)) (nm_r (nI_1 i) g))
  exact ⟨_, key n 0 0 (by omega) (by omega) rf_PO_0⟩
end
section
variable {mn sz ls tl : Int32} {ba bl te wa be t : Nat → Int32} {n mm : Nat} {m : rf_M}
theorem rx_sep_trial {post : SX → Prop} {p : Nat} (hp : p < 14) (hb : ∀ q, m p = some q → q < 14)
    (h0 : m p = none → post (mn, sz, ls, tl, ba, bl, te, rf_c (-3) t m, wa, be)) (h1 : ∀ q, m p = some q → post (mn, sz, ls, tl, ba, bl, te, rf_c (-3) t (rf_sep m p q), wa, be)) : wpX_separate__trial post (mn, sz, ls, tl, ba, bl, te, rf_c (-3) t m, wa, be) (nI p) := by
  have cp : (nI p).toNatClampNeg = p := nI_clamp (by omega)
  have vp : vp_in (nI p) 14 := vp_in_nI hp (by omega)
  unfold wpX_separate__trial
  rw [cp]
  cases hm : m p with
  | none =>
    refine ⟨vp, nm_r (rf_c_n hp hm) (br_t (rf_z0 rf_z3) (h0 hm))⟩
  | some q =>
    have hq := hb q hm
    have cq : (nI q).toNatClampNeg = q := nI_clamp (by omega)
    refine ⟨vp, nm_r (rf_c_s hp hm) (br_f (nI_pos (by omega)) ⟨vp, nm_e ⟨vp_in_nI hq (by omega), nm_r (by rw [cq, rf_c_p hp hq]) (h1 q hm)⟩⟩)⟩
theorem rx_join_trial {post : SX → Prop} {p q : Nat} (hp : p < 14) (hq : q < 14) (h : post (mn, sz, ls, tl, ba, bl, te, rf_c (-3) t (rf_join m p q), wa, be)) : wpX_join__trial post (mn, sz, ls, tl, ba, bl, te, rf_c (-3) t m, wa, be) (nI p) (nI q) := by
  have cp : (nI p).toNatClampNeg = p := nI_clamp (by omega)
  have cq : (nI q).toNatClampNeg = q := nI_clamp (by omega)
  unfold wpX_join__trial
  rw [cp, cq]
  exact ⟨vp_in_nI hp (by omega), nm_e ⟨vp_in_nI hq (by omega), nm_r (rf_c_j hp hq) h⟩⟩
theorem rx_clear_trial {post : SX → Prop} {w : Nat → Int32} (h : post (mn, sz, ls, tl, ba, bl, te, rf_c (-3) w rf_0, wa, be)) : wpX_clear__trial post (mn, sz, ls, tl, ba, bl, te, w, wa, be) := by
  unfold wpX_clear__trial
  have key : ∀ d i, i + d = 14 → wX_clear__trial_2 post mn sz ls tl (d + 1) (nI i) ba bl te (rf_ini (-3) w i) wa be := by
    intro d
    induction d with
    | zero =>
      intro i hi
      have e : i = 14 := by omega
      subst e
      refine br_t (by decide) ?_
      rw [rf_ini_e]; exact h
    | succ d ih =>
      intro i hi
      have ci : (nI i).toNatClampNeg = i := nI_clamp (by omega)
      have vi : vp_in (nI i) 14 := vp_in_nI (by omega) (by omega)
      refine br_f (nI_ge (b := 14) (by omega) (by decide)) ⟨vi, nm_r (by rw [ci, rf_ini_s]) (nm_r (nI_1 i) (ih (i + 1) (by omega)))⟩
  refine ⟨15, ?_⟩
  have g := key 14 0 rfl
  rw [rf_ini_0] at g
  exact g
theorem rx_fits_trial {post : Int32 → Prop} {i j : Nat} (hij : i < j) (hj : j < 14) (hb : ∀ p q, m p = some q → q < 14)
    (h1 : rf_F m i j → post 1) (h0 : ¬ rf_F m i j → post 0) : wpX_fits__trial post (mn, sz, ls, tl, ba, bl, te, rf_c (-3) t m, wa, be) (nI i) (nI j) := by
  have ci : (nI i).toNatClampNeg = i := nI_clamp (by omega)
  have cj : (nI j).toNatClampNeg = j := nI_clamp (by omega)
  unfold wpX_fits__trial
  rw [ci, cj]
  cases hmi : m i with
  | some q => exact ⟨vp_in_nI (by omega) (by omega), br_f (by rw [rf_c_s (by omega) hmi]; exact rf_zne rf_z3 (by have := hb i q hmi; omega)) (h0 fun z => by rw [z.1] at hmi; cases hmi)⟩
  | none =>
    refine ⟨vp_in_nI (by omega) (by omega), br_t (rf_c_n (by omega) hmi) ⟨vp_in_nI (by omega) (by omega), ?_⟩⟩
    cases hmj : m j with
    | some q => exact br_f (by rw [rf_c_s (by omega) hmj]; exact rf_zne rf_z3 (by have := hb j q hmj; omega)) (h0 fun z => by rw [z.2.1] at hmj; cases hmj)
    | none =>
      refine br_t (rf_c_n (by omega) hmj) (nm_r (nI_1 i) ?_)
      have key : ∀ d p, p + d = j → i < p → (∀ r q, i < r → r < p → m r = some q → i ≤ q ∧ q ≤ j) → wX_fits__trial_23 post (nI i) (nI j) mn sz ls tl ba bl te (rf_c (-3) t m) wa be (d + 1) (nI p) := by
        intro d
        induction d with
        | zero =>
          intro p hp hi hall
          refine br_t (nI_le (by omega) (by omega)) (h1 ⟨hmi, hmj, fun r q r1 r2 r3 => hall r q r1 (by omega) r3⟩)
        | succ d ih =>
          intro p hp hi hall
          have cp : (nI p).toNatClampNeg = p := nI_clamp (by omega)
          refine br_f (nI_ge (by omega) (by omega)) ⟨vp_in_nI (by omega) (by omega), ?_⟩
          rw [cp]
          have nxt : (∀ q, m p = some q → i ≤ q ∧ q ≤ j) → ∀ r q, i < r → r < p + 1 → m r = some q → i ≤ q ∧ q ≤ j := by
            intro hq r q r1 r2 r3
            by_cases e : r = p
            · rw [e] at r3; exact hq q r3
            · exact hall r q r1 (by omega) r3
          cases hm : m p with
          | none =>
            refine nm_r (rf_c_n (by omega) hm) (br_t rfl (nm_r (nI_1 p) (ih (p + 1) (by omega) (by omega) (nxt fun q z => by rw [hm] at z; cases z))))
          | some q =>
            have hq := hb p q hm
            refine nm_r (rf_c_s (by omega) hm) (br_f (rf_zne rf_z3 (by omega)) ?_)
            refine pk_lt q i (fun c => h0 fun z => by have := z.2.2 p q hi (by omega) hm; omega) (fun c => ?_)
            refine pk_le q j (fun c2 => ?_) (fun c2 => h0 fun z => by have := z.2.2 p q hi (by omega) hm; omega)
            exact nm_r (nI_1 p) (ih (p + 1) (by omega) (by omega) (nxt fun q' z => by rw [hm] at z; cases z; exact ⟨c, c2⟩))
      exact ⟨_, key (j - (i + 1)) (i + 1) (by omega) (by omega) (fun r q r1 r2 => by omega)⟩
theorem rx_loop_trial {post : Int32 → Prop} {i j : Nat} (hn : n ≤ 14) (hW : rf_W n m) (hij : m i = some j) (hlt : i < j) (h : post (rf_LE ba te m i j)) : wpX_loopEnergy__trial post (mn, sz, ls, tl, ba, bl, te, rf_c (-3) t m, wa, be) (nI i) (nI j) := by
  obtain ⟨hi, hj, -, -⟩ := hW.1 i j hij
  unfold wpX_loopEnergy__trial
  refine rx_end (by omega) (by omega) (nm_r (nI_1 i) (nm_r (nI_1 i) ?_))
  have lo : ∀ k, k < i + 1 → ¬ rf_C m i j k := fun k hk ⟨l, z1, z2, z3⟩ => by have := z3.1; omega
  have lu : ∀ k, k < i + 1 → ¬ rf_U m i j k := fun k hk z => by have := z.1; omega
  have key : ∀ d p pa, p + d = j → i < p → pa ≤ 14 → rf_PA m i j p pa → wX_loopEnergy__trial_27 post (nI i) (nI j) mn sz ls tl ba bl te (rf_c (-3) t m) wa be (d + 1)
      (nI (rf_ct (rf_C m i j) p)) (nI (rf_ct (rf_U m i j) p)) (rf_en ba te i j + rf_sm (rf_C m i j) (fun k => rf_en ba te k (rf_mt m k)) p) (nI (rf_la (rf_C m i j) i p)) (nI pa) (nI p) := by
    intro d
    induction d with
    | zero =>
      intro p pa hp hip hpa hPA
      have e : p = j := by omega
      subst e
      have hc := rf_ct_le (rf_C m i p) p
      obtain ⟨o1, o2, o3⟩ := rf_one (P := rf_C m i p) (f := fun k => rf_en ba te k (rf_mt m k)) (i := i) p
      refine br_t (nI_le (Nat.le_refl _) (by omega)) ?_
      unfold rf_LE at h
      refine pk_eq (rf_ct (rf_C m i p) p) 0 (fun c => ?_) (fun c => ?_)
      · rw [if_pos c] at h
        rw [(o1 c).1, Int32.add_zero]; exact h
      · rw [if_neg c] at h
        refine pk_eq (rf_ct (rf_C m i p) p) 1 (fun c1 => ?_) (fun c1 => ?_)
        · rw [if_pos c1] at h
          obtain ⟨⟨l, l1, l2, l3⟩, q2⟩ := o2 (by omega)
          have hl := hW.1 _ _ l1
          have ck : (nI (rf_la (rf_C m i p) i p)).toNatClampNeg = rf_la (rf_C m i p) i p := nI_clamp (by omega)
          rw [o3 c1, ck, rf_c_s (by omega) l1]
          rw [rf_mt_s l1] at h
          show vp_in _ 14 ∧ wpX_innerLoopEnergy (fun r => post r) (mn, sz, ls, tl, ba, bl, te, rf_c (-3) t m, wa, be) (nI i) (nI p) (nI (rf_la (rf_C m i p) i p)) (nI l) (rf_en ba te i p + rf_en ba te (rf_la (rf_C m i p) i p) (rf_mt m (rf_la (rf_C m i p) i p)))
          rw [rf_mt_s l1]
          exact ⟨vp_in_nI (by omega) (by omega), rx_inner l3.1 (by omega) l3.2.1 (by omega) h⟩
        · rw [if_neg c1] at h
          rw [nI_1, ← Int32.add_assoc]; exact h
    | succ d ih =>
      intro p pa hp hip hpa hPA
      have cp : (nI p).toNatClampNeg = p := nI_clamp (by omega)
      refine br_f (nI_ge (by omega) (by omega)) ?_
      rw [cp]
      refine pk_lt p pa (fun c => ?_) (fun c => ?_)
      · obtain ⟨k1, k2, k3⟩ := rf_PA_3 hW hij hip (by omega) hPA c
        have g := ih (p + 1) pa (by omega) (by omega) hpa k3
        rw [rf_ct_f k1, rf_ct_f k2, rf_sm_f k1, rf_la_f k1] at g
        exact nm_r (nI_1 p) g
      · refine ⟨vp_in_nI (by omega) (by omega), ?_⟩
        by_cases hm : ∃ l, m p = some l ∧ p < l
        · obtain ⟨l, hm, hl⟩ := hm
          have hl2 := (hW.1 p l hm).2.1
          obtain ⟨k1, k2, k3⟩ := rf_PA_1 hW hij hip (by omega) hPA c hm hl
          have g := ih (p + 1) (l + 1) (by omega) (by omega) (by omega) k3
          rw [rf_ct_t k1, rf_ct_f k2, rf_sm_t k1, rf_la_t k1, ← Int32.add_assoc] at g
          rw [rf_c_s (by omega) hm]
          refine br_f (nI_ge hl (by omega)) (nm_r (nI_1 _) ⟨vp_in_nI (by omega) (by omega), rx_end (by omega) (by omega) (nm_e ⟨vp_in_nI (by omega) (by omega), nm_r (nI_1 l) (nm_r (nI_1 p) ?_)⟩)⟩)
          rw [rf_mt_s hm] at g
          exact g
        · have hm' : ∀ l, m p = some l → ¬ p < l := fun l z1 z2 => hm ⟨l, z1, z2⟩
          obtain ⟨k1, k2, k3⟩ := rf_PA_2 hW hij hip (by omega) hPA c hm'
          have g := ih (p + 1) pa (by omega) (by omega) hpa k3
          rw [rf_ct_f k1, rf_ct_t k2, rf_sm_f k1, rf_la_f k1] at g
          rw [rf_c_n (by omega) k2.2.1]
          exact br_t (rf_zle rf_z3 (by omega)) (nm_r (nI_1 _) (nm_r (nI_1 p) g))
  have g := key (j - (i + 1)) (i + 1) (i + 1) (by omega) (by omega) (by omega) rf_PA_0
  rw [rf_ct_0 _ lo, rf_ct_0 _ lu, rf_sm_0 _ lo, rf_la_0 _ lo, Int32.add_zero] at g
  exact ⟨_, g⟩
theorem rx_energy_trial {post : Int32 → Prop} (hn : n ≤ 14) (hW : rf_W n m) (h : post (rf_EN ba te m n)) : wpX_energyOf__trial post (mn, nI n, ls, tl, ba, bl, te, rf_c (-3) t m, wa, be) := by
  unfold wpX_energyOf__trial
  have key : ∀ d i o, i + d = n → o ≤ 14 → rf_PO m i o → wX_energyOf__trial_7 post mn (nI n) ls tl ba bl te (rf_c (-3) t m) wa be (d + 1) (rf_EN ba te m i) (nI o) (nI i) := by
    intro d
    induction d with
    | zero =>
      intro i o hi ho hPO
      have e : i = n := by omega
      subst e
      exact br_t (nI_le (Nat.le_refl _) (by omega)) h
    | succ d ih =>
      intro i o hi ho hPO
      have ci : (nI i).toNatClampNeg = i := nI_clamp (by omega)
      refine br_f (nI_ge (by omega) (by omega)) ⟨vp_in_nI (by omega) (by omega), ?_⟩
      rw [ci]
      by_cases hm : ∃ j, m i = some j ∧ i < j
      · obtain ⟨j, hm, hj⟩ := hm
        have hj2 := (hW.1 i j hm).2.1
        refine nm_r (rf_c_s (by omega) hm) (br_f (nI_ge hj (by omega)) (rx_loop_trial hn hW hm hj (nm_e ?_)))
        refine pk_lt i o (fun c => ?_) (fun c => ?_)
        · obtain ⟨k1, k2⟩ := rf_PO_2 hW hPO c hm hj
          have g := ih (i + 1) o (by omega) ho k2
          rw [rf_EN_i hm hj k1] at g
          exact nm_r (nI_1 i) g
        · obtain ⟨k1, k2⟩ := rf_PO_1 hPO c hm hj
          have g := ih (i + 1) (j + 1) (by omega) (by omega) k2
          rw [rf_EN_o hm hj k1] at g
          exact rx_end (by omega) (by omega) (nm_e (nm_r (nI_1 j) (nm_r (nI_1 i) g)))
      · have hm' : ∀ l, m i = some l → ¬ i < l := fun l z1 z2 => hm ⟨l, z1, z2⟩
        have g := ih (i + 1) o (by omega) ho (rf_PO_3 hW hPO hm')
        cases hmi : m i with
        | none =>
          rw [rf_EN_n hmi] at g
          exact nm_r (rf_c_n (by omega) hmi) (br_t (rf_zle rf_z3 (by omega)) (nm_r (nI_1 i) g))
        | some j =>
          have hj2 := (hW.1 i j hmi).2.1
          rw [rf_EN_d hmi (hm' j hmi)] at g
          exact nm_r (rf_c_s (by omega) hmi) (br_t (nI_le (by have := hm' j hmi; omega) (by omega)) (nm_r (nI_1 i) g))
  exact ⟨_, key n 0 0 (by omega) (by omega) rf_PO_0⟩
end
end
section
/-! X: the walk through all structures -/
theorem rf_dn_ok {ok : Nat → Prop} : ∀ (a r : Nat), rf_dn ok a = some r → ok r ∧ r < a := by
  intro a
  induction a with
  | zero => intro r h; cases h
  | succ a ih =>
    intro r h
    by_cases o : ok a
    · rw [rf_dn_t o] at h; cases h; exact ⟨o, by omega⟩
    · rw [rf_dn_f o] at h
      have := ih r h
      exact ⟨this.1, by omega⟩
theorem rf_dn_lo {n : Nat} {cp : Nat → Nat → Prop} {m : rf_M} {p : Nat} : ∀ b, b ≤ p + 1 → rf_dn (rf_ok n cp m p) b = none := by
  intro b
  induction b with
  | zero => intro _; rfl
  | succ b ih =>
    intro h
    rw [rf_dn_f (fun z => by have := z.1; omega)]
    exact ih (by omega)
theorem rf_sm1 (n : Nat) : nI n - 1 = nI n + (-1) := Int32.sub_eq_add_neg _ _
section
variable {mn sz ls tl : Int32} {ba bl te tr wa be t : Nat → Int32} {n mm : Nat} {m : rf_M} {cp : Nat → Nat → Prop}
theorem rx_next {post : Int32 → Prop} {p a : Nat} (hn : n ≤ 14) (hm : mm ≤ 4) (hc : ∀ i j, i < j → j < n → (cp i j ↔ rf_cp mm ba bl i j)) (hW : rf_W n m) (hpa : p < a) (han : a ≤ n)
    (h : post ((rf_dn (rf_ok n cp m p) a).elim (-3) nI)) : wpX_nextPartner post (nI mm, nI n, ls, tl, ba, bl, te, tr, rf_c (-3) t m, be) (nI p) (nI a) := by
  have hb : ∀ p q, m p = some q → q < 14 := fun p q z => by have := (hW.1 p q z).2.1; omega
  unfold wpX_nextPartner
  have key : ∀ d b, b = p + d → b < n → post ((rf_dn (rf_ok n cp m p) (b + 1)).elim (-3) nI) → wX_nextPartner_4 post (nI p) (nI mm) (nI n) ls tl ba bl te tr (rf_c (-3) t m) be (d + 1) (nI b) := by
    intro d
    induction d with
    | zero =>
      intro b hb1 hb2 hp
      rw [rf_dn_lo (b + 1) (by omega)] at hp
      exact br_t (nI_le (by omega) (by omega)) hp
    | succ d ih =>
      intro b hb1 hb2 hp
      obtain ⟨b', rfl⟩ : ∃ b', b = b' + 1 := ⟨b - 1, by omega⟩
      have no : ¬ rf_ok n cp m p (b' + 1) → wX_nextPartner_4 post (nI p) (nI mm) (nI n) ls tl ba bl te tr (rf_c (-3) t m) be (d + 1) (nI b') := fun z => by
        rw [rf_dn_f z] at hp
        exact ih b' (by omega) (by omega) hp
      refine br_f (nI_ge (by omega) (by omega)) ?_
      refine rx_canPair hn hm (fun i j e1 e2 h3 h4 h5 => ?_) (fun hno => ?_)
      · refine br_f (by decide) ?_
        have e1' := (nI_eq (by omega) (by omega)).mp e1
        have e2' := (nI_eq (by omega) (by omega)).mp e2
        subst e1' e2'
        refine rx_fits_walk (by omega) (by omega) hb (fun f => ?_) (fun f => ?_)
        · rw [rf_dn_t (show rf_ok n cp m p (b' + 1) from ⟨h3, h4, (hc _ _ h3 h4).mpr h5, f⟩)] at hp
          exact br_f (by decide) hp
        · exact br_t rfl (nm_r (pk_m1 b') (no fun z => f z.2.2.2))
      · exact br_t rfl (nm_r (pk_m1 b') (no fun z => hno p (b' + 1) rfl rfl z.1 z.2.1 ((hc _ _ z.1 z.2.1).mp z.2.2.1)))
  obtain ⟨b, rfl⟩ : ∃ b, a = b + 1 := ⟨a - 1, by omega⟩
  exact nm_r (nI_pred b) ⟨_, key (b - p) b (by omega) (by omega) h⟩
theorem rx_step {post : Int32 → SX → Prop} (hn : n ≤ 14) (hm : mm ≤ 4) (hc : ∀ i j, i < j → j < n → (cp i j ↔ rf_cp mm ba bl i j)) (hW : rf_W n m)
    (h1 : ∀ m', rf_nx n (rf_ok n cp) n m = some m' → post 1 (nI mm, nI n, ls, tl, ba, bl, te, tr, rf_c (-3) t m', be))
    (h0 : rf_nx n (rf_ok n cp) n m = none → ∀ m', post 0 (nI mm, nI n, ls, tl, ba, bl, te, tr, rf_c (-3) t m', be)) : wpX_stepOn post (nI mm, nI n, ls, tl, ba, bl, te, tr, rf_c (-3) t m, be) := by
  unfold wpX_stepOn
  have key : ∀ p m, rf_W n m → p ≤ n → (∀ m', rf_nx n (rf_ok n cp) p m = some m' → post 1 (nI mm, nI n, ls, tl, ba, bl, te, tr, rf_c (-3) t m', be)) →
      (rf_nx n (rf_ok n cp) p m = none → ∀ m', post 0 (nI mm, nI n, ls, tl, ba, bl, te, tr, rf_c (-3) t m', be)) → wX_stepOn_7 post (p + 1) (nI p + (-1)) (nI mm) (nI n) ls tl ba bl te tr (rf_c (-3) t m) be := by
    intro p
    induction p with
    | zero =>
      intro m hW hp h1 h0
      exact br_t (by decide) (h0 rfl m)
    | succ p ih =>
      intro m hW hp h1 h0
      have hb : ∀ q, m p = some q → q < 14 := fun q z => by have := (hW.1 p q z).2.1; omega
      rw [pk_m1]
      have cp' : (nI p).toNatClampNeg = p := nI_clamp (by omega)
      have dig : ∀ (m' : rf_M) (a : Nat), rf_W n m' → p < a → a ≤ n → rf_nx n (rf_ok n cp) (p + 1) m = rf_dg n (rf_ok n cp) p m' a →
          wpX_nextPartner (fun r => (r = (-3) → ∀ x, x = nI p + (-1) → wX_stepOn_7 post (p + 1) x (nI mm) (nI n) ls tl ba bl te tr (rf_c (-3) t m') be) ∧ (¬ r = (-3) → wpX_join__walk (fun u => match u with | (f_minimum, f_size, f_least, f_total, a_bases, a_blocked, a_terms, a_trial, a_walk, a_best) => post 1 (f_minimum, f_size, f_least, f_total, a_bases, a_blocked, a_terms, a_trial, a_walk, a_best)) (nI mm, nI n, ls, tl, ba, bl, te, tr, rf_c (-3) t m', be) (nI p) r)) (nI mm, nI n, ls, tl, ba, bl, te, tr, rf_c (-3) t m', be) (nI p) (nI a) := by
        intro m' a hW' hpa han e
        refine rx_next hn hm hc hW' hpa han ?_
        unfold rf_dg at e
        cases hd : rf_dn (rf_ok n cp m' p) a with
        | none =>
          rw [hd] at e
          have e' : rf_nx n (rf_ok n cp) (p + 1) m = rf_nx n (rf_ok n cp) p m' := e
          refine br_t rfl (nm_e ?_)
          exact ih m' hW' (by omega) (fun m2 z => h1 m2 (e'.trans z)) (fun z => h0 (e'.trans z))
        | some r =>
          rw [hd] at e
          have e' : rf_nx n (rf_ok n cp) (p + 1) m = some (rf_join m' p r) := e
          have hr := (rf_dn_ok _ _ hd).1.2.1
          exact br_f (rf_zne rf_z3 (by omega)) (rx_join_walk (by omega) (by omega) (h1 _ e'))
      refine br_f (nI_pos (by omega)) ⟨vp_in_nI (by omega) (by omega), ?_⟩
      rw [cp']
      cases hmp : m p with
      | none =>
        refine nm_r (rf_c_n (by omega) hmp) (br_t rfl (br_t rfl ?_))
        exact rx_sep_walk (by omega) hb (fun _ => dig m n hW (by omega) (Nat.le_refl n) (rf_nx_n hmp)) (fun q z => by rw [hmp] at z; cases z)
      | some q =>
        have hq := hb q hmp
        have hq2 := (hW.1 p q hmp).2.1
        refine nm_r (rf_c_s (by omega) hmp) (br_f (rf_zne rf_z3 (by omega)) ?_)
        refine pk_le q p (fun c => ?_) (fun c => ?_)
        · have e := rf_nx_d (n := n) (ok := rf_ok n cp) hmp (by omega)
          exact nm_e (ih m hW (by omega) (fun m2 z => h1 m2 (e.trans z)) (fun z => h0 (e.trans z)))
        · refine br_f (rf_zne rf_z3 (by omega)) ?_
          exact rx_sep_walk (by omega) hb (fun z => by rw [hmp] at z; cases z) (fun q' z => by
            rw [hmp] at z; cases z
            exact dig (rf_sep m p q) q (rf_Ws hW hmp) c (by omega) (rf_nx_u hmp c))
  exact nm_r (rf_sm1 n) ⟨_, key n m hW (Nat.le_refl n) h1 h0⟩
theorem rx_survey_loop {post : SX → Prop} (hn : n ≤ 14) (hm : mm ≤ 4) (hc : ∀ i j, i < j → j < n → (cp i j ↔ rf_cp mm ba bl i j)) :
    ∀ (l : List rf_M) (m : rf_M) (acc : Int32 × rf_M) (st ct : Nat) (be : Nat → Int32), rf_go (rf_nx n (rf_ok n cp) n) (rf_nx n (rf_ok n cp) n m) l none → (∀ x, x ∈ m :: l → rf_W n x) →
    st + l.length < 1000000 → (rf_EN ba te m n ≤ acc.1 ∨ ∃ tb, be = rf_c (-3) tb acc.2) →
    (∀ m' tb, post (nI mm, nI n, ((m :: l).foldl (rf_fx fun m => rf_EN ba te m n) acc).1, nI (ct + l.length + 1), ba, bl, te, tr, rf_c (-3) t m', rf_c (-3) tb ((m :: l).foldl (rf_fx fun m => rf_EN ba te m n) acc).2)) →
    wX_survey_22 post (l.length + 2) 1 (nI st) (nI mm) (nI n) acc.1 (nI ct) ba bl te tr (rf_c (-3) t m) be := by
  intro l
  induction l with
  | nil =>
    intro m acc st ct be hgo hWs hst hco h
    have hW := hWs m (List.mem_cons_self ..)
    have hno : rf_nx n (rf_ok n cp) n m = none := hgo
    have step : ∀ (le' : Int32) (be' : Nat → Int32), (∃ tb, be' = rf_c (-3) tb (rf_fx (fun m => rf_EN ba te m n) acc m).2) → le' = (rf_fx (fun m => rf_EN ba te m n) acc m).1 → wX_survey_58 post (wX_survey_22 post 1) (nI st) (nI mm) (nI n) le' (nI ct) ba bl te tr (rf_c (-3) t m) be' := by
      intro le' be' ⟨tb, e1⟩ e2
      subst e1 e2
      refine nm_r (nI_1 ct) (rx_step hn hm hc hW (fun m' z => by rw [hno] at z; cases z) (fun _ m' => nm_e (br_t rfl (h m' tb))))
    refine br_f (by decide) (br_f (nI_ge (b := 1000000) (by omega) (by decide)) (rx_energy_walk hn hW ?_))
    by_cases c : rf_EN ba te m n ≤ acc.1
    · have e : rf_fx (fun m => rf_EN ba te m n) acc m = (rf_EN ba te m n, m) := if_pos c
      refine br_f (Int32.not_lt.mpr c) (rx_copy ?_)
      exact step _ _ ⟨be, by rw [rf_cpy_e, e]⟩ (by rw [e])
    · have e : rf_fx (fun m => rf_EN ba te m n) acc m = acc := if_neg c
      exact br_t (Int32.not_le.mp c) (step _ _ (by rw [e]; exact hco.resolve_left c) (by rw [e]))
  | cons m2 l ih =>
    intro m acc st ct be hgo hWs hst hco h
    have hW := hWs m (List.mem_cons_self ..)
    have hlen : (m2 :: l).length = l.length + 1 := rfl
    obtain ⟨hno, hgo'⟩ := hgo
    have step : ∀ (le' : Int32) (be' : Nat → Int32), (∃ tb, be' = rf_c (-3) tb (rf_fx (fun m => rf_EN ba te m n) acc m).2) → le' = (rf_fx (fun m => rf_EN ba te m n) acc m).1 → wX_survey_58 post (wX_survey_22 post (l.length + 2)) (nI st) (nI mm) (nI n) le' (nI ct) ba bl te tr (rf_c (-3) t m) be' := by
      intro le' be' ⟨tb, e1⟩ e2
      subst e2
      refine nm_r (nI_1 ct) (rx_step hn hm hc hW (fun m' z => ?_) (fun z => by rw [hno] at z; cases z))
      rw [hno] at z
      have z' := Option.some.inj z
      subst z'
      refine nm_r (nI_1 st) (ih m2 (rf_fx (fun m => rf_EN ba te m n) acc m) (st + 1) (ct + 1) be' hgo' (fun x hx => hWs x (List.mem_cons_of_mem _ hx)) (by omega) (Or.inr ⟨tb, e1⟩) ?_)
      intro m' tb'
      have g := h m' tb'
      rw [hlen, show ct + (l.length + 1) + 1 = ct + 1 + l.length + 1 from by omega] at g
      exact g
    refine br_f (by decide) (br_f (nI_ge (b := 1000000) (by omega) (by decide)) (rx_energy_walk hn hW ?_))
    by_cases c : rf_EN ba te m n ≤ acc.1
    · have e : rf_fx (fun m => rf_EN ba te m n) acc m = (rf_EN ba te m n, m) := if_pos c
      refine br_f (Int32.not_lt.mpr c) (rx_copy ?_)
      exact step _ _ ⟨be, by rw [rf_cpy_e, e]⟩ (by rw [e])
    · have e : rf_fx (fun m => rf_EN ba te m n) acc m = acc := if_neg c
      exact br_t (Int32.not_le.mp c) (step _ _ (by rw [e]; exact hco.resolve_left c) (by rw [e]))
theorem rx_survey {post : SX → Prop} (hn : n ≤ 14) (hm : mm ≤ 4) (hm2 : 2 ≤ mm) (hc : ∀ i j, i < j → j < n → (cp i j ↔ rf_cp mm ba bl i j))
    (h : ∀ w tb, post (nI mm, nI n, ((rf_L n cp).foldl (rf_fx fun m => rf_EN ba te m n) (0, rf_0)).1, nI (rf_L n cp).length, ba, bl, te, tr, w, rf_c (-3) tb ((rf_L n cp).foldl (rf_fx fun m => rf_EN ba te m n) (0, rf_0)).2)) :
    wpX_survey post (nI mm, nI n, ls, tl, ba, bl, te, tr, wa, be) := by
  unfold wpX_survey
  refine rx_clear_walk ?_
  obtain ⟨l, hl⟩ := rf_L_h (n := n) (cp := cp)
  have hlen := rf_L_len (cp := cp) hn (fun p q h1 h2 h3 => by have := ((hc p q h1 h2).mp h3).1; omega)
  have hx := rf_L_x (n := n) (cp := cp)
  have hWs := rf_L_W (n := n) (cp := cp)
  rw [hl] at hlen hx hWs h
  have hll : (rf_0 :: l).length = l.length + 1 := rfl
  rw [hll] at hlen h
  refine ⟨l.length + 2, ?_⟩
  exact rx_survey_loop hn hm hc l rf_0 (0, rf_0) 0 0 be hx.2 hWs (by omega) (Or.inl (by rw [rf_EN_0]; decide)) (fun m' tb => by
    have g := h (rf_c (-3) wa m') tb
    rw [show 0 + l.length + 1 = l.length + 1 from by omega]
    exact g)
theorem rx_count_loop {post : Int32 → SX → Prop} {wt : Int32} (hn : n ≤ 14) (hm : mm ≤ 4) (hc : ∀ i j, i < j → j < n → (cp i j ↔ rf_cp mm ba bl i j)) :
    ∀ (l : List rf_M) (m : rf_M) (st ct : Nat), rf_go (rf_nx n (rf_ok n cp) n) (rf_nx n (rf_ok n cp) n m) l none → (∀ x, x ∈ m :: l → rf_W n x) →
    st + l.length < 1000000 →
    (∀ m', post (nI (ct + rf_k (fun m => rf_EN ba te m n = wt) (m :: l))) (nI mm, nI n, ls, tl, ba, bl, te, tr, rf_c (-3) t m', be)) →
    wX_countWithEnergy_15 post wt (l.length + 2) (nI ct) 1 (nI st) (nI mm) (nI n) ls tl ba bl te tr (rf_c (-3) t m) be := by
  intro l
  induction l with
  | nil =>
    intro m st ct hgo hWs hst h
    have hW := hWs m (List.mem_cons_self ..)
    have hno : rf_nx n (rf_ok n cp) n m = none := hgo
    have step : ∀ c' : Nat, c' = ct + rf_k (fun m => rf_EN ba te m n = wt) [m] → wX_countWithEnergy_45 post (wX_countWithEnergy_15 post wt 1) wt (nI c') (nI st) (nI mm) (nI n) ls tl ba bl te tr (rf_c (-3) t m) be := by
      intro c' e
      subst e
      exact rx_step hn hm hc hW (fun m' z => by rw [hno] at z; cases z) (fun _ m' => nm_e (br_t rfl (h m')))
    refine br_f (by decide) (br_f (nI_ge (b := 1000000) (by omega) (by decide)) (rx_energy_walk hn hW ?_))
    refine br_c (fun c => nm_r (nI_1 ct) (step (ct + 1) ?_)) (fun c => step ct ?_)
    · rw [rf_k_t (P := fun m => rf_EN ba te m n = wt) (m := m) c]; rfl
    · rw [rf_k_f (P := fun m => rf_EN ba te m n = wt) (m := m) c]; rfl
  | cons m2 l ih =>
    intro m st ct hgo hWs hst h
    have hW := hWs m (List.mem_cons_self ..)
    have hlen : (m2 :: l).length = l.length + 1 := rfl
    obtain ⟨hno, hgo'⟩ := hgo
    have step : ∀ c' : Nat, c' + rf_k (fun m => rf_EN ba te m n = wt) (m2 :: l) = ct + rf_k (fun m => rf_EN ba te m n = wt) (m :: m2 :: l) → wX_countWithEnergy_45 post (wX_countWithEnergy_15 post wt (l.length + 2)) wt (nI c') (nI st) (nI mm) (nI n) ls tl ba bl te tr (rf_c (-3) t m) be := by
      intro c' e
      refine rx_step hn hm hc hW (fun m' z => ?_) (fun z => by rw [hno] at z; cases z)
      rw [hno] at z
      have z' := Option.some.inj z
      subst z'
      refine nm_r (nI_1 st) (ih m2 (st + 1) c' hgo' (fun x hx => hWs x (List.mem_cons_of_mem _ hx)) (by omega) ?_)
      intro m'
      rw [e]; exact h m'
    refine br_f (by decide) (br_f (nI_ge (b := 1000000) (by omega) (by decide)) (rx_energy_walk hn hW ?_))
    refine br_c (fun c => nm_r (nI_1 ct) (step (ct + 1) ?_)) (fun c => step ct ?_)
    · rw [rf_k_t (P := fun m => rf_EN ba te m n = wt) (m := m) c]; omega
    · rw [rf_k_f (P := fun m => rf_EN ba te m n = wt) (m := m) c]
theorem rx_count {post : Int32 → SX → Prop} {wt : Int32} (hn : n ≤ 14) (hm : mm ≤ 4) (hm2 : 2 ≤ mm) (hc : ∀ i j, i < j → j < n → (cp i j ↔ rf_cp mm ba bl i j))
    (h : ∀ w, post (nI (rf_k (fun m => rf_EN ba te m n = wt) (rf_L n cp))) (nI mm, nI n, ls, tl, ba, bl, te, tr, w, be)) :
    wpX_countWithEnergy post (nI mm, nI n, ls, tl, ba, bl, te, tr, wa, be) wt := by
  unfold wpX_countWithEnergy
  refine rx_clear_walk ?_
  obtain ⟨l, hl⟩ := rf_L_h (n := n) (cp := cp)
  have hlen := rf_L_len (cp := cp) hn (fun p q h1 h2 h3 => by have := ((hc p q h1 h2).mp h3).1; omega)
  have hx := rf_L_x (n := n) (cp := cp)
  have hWs := rf_L_W (n := n) (cp := cp)
  rw [hl] at hlen hx hWs h
  have hll : (rf_0 :: l).length = l.length + 1 := rfl
  rw [hll] at hlen
  refine ⟨l.length + 2, ?_⟩
  exact rx_count_loop hn hm hc l rf_0 0 0 hx.2 hWs (by omega) (fun m' => by rw [Nat.zero_add]; exact h _)
theorem rx_pair_loop {post : Int32 → SX → Prop} {wt : Int32} {i j : Nat} (hn : n ≤ 14) (hm : mm ≤ 4) (hi : i < 14) (hj : j < 14) (hc : ∀ i j, i < j → j < n → (cp i j ↔ rf_cp mm ba bl i j)) :
    ∀ (l : List rf_M) (m : rf_M) (st ct : Nat), rf_go (rf_nx n (rf_ok n cp) n) (rf_nx n (rf_ok n cp) n m) l none → (∀ x, x ∈ m :: l → rf_W n x) →
    st + l.length < 1000000 →
    (∀ m', post (nI (ct + rf_k (fun m => m i = some j ∧ rf_EN ba te m n = wt) (m :: l))) (nI mm, nI n, ls, tl, ba, bl, te, tr, rf_c (-3) t m', be)) →
    wX_countWithPair_17 post wt (nI i) (nI j) (l.length + 2) (nI ct) 1 (nI st) (nI mm) (nI n) ls tl ba bl te tr (rf_c (-3) t m) be := by
  intro l
  have ci : (nI i).toNatClampNeg = i := nI_clamp (by omega)
  have rd : ∀ m, rf_W n m → (rf_c (-3) t m i = nI j ↔ m i = some j) := by
    intro m hW
    cases e : m i with
    | none => rw [rf_c_n hi e]; exact ⟨fun z => absurd z.symm (rf_zne rf_z3 (by omega)), fun z => by cases z⟩
    | some q =>
      have := (hW.1 i q e).2.1
      rw [rf_c_s hi e, nI_eq (by omega) (by omega)]
      exact ⟨fun z => by rw [z], fun z => Option.some.inj z⟩
  induction l with
  | nil =>
    intro m st ct hgo hWs hst h
    have hW := hWs m (List.mem_cons_self ..)
    have hno : rf_nx n (rf_ok n cp) n m = none := hgo
    have step : ∀ c' : Nat, c' = ct + rf_k (fun m => m i = some j ∧ rf_EN ba te m n = wt) [m] → wX_countWithPair_58 post (wX_countWithPair_17 post wt (nI i) (nI j) 1) wt (nI i) (nI j) (nI c') (nI st) (nI mm) (nI n) ls tl ba bl te tr (rf_c (-3) t m) be := by
      intro c' e
      subst e
      exact rx_step hn hm hc hW (fun m' z => by rw [hno] at z; cases z) (fun _ m' => nm_e (br_t rfl (h m')))
    refine br_f (by decide) (br_f (nI_ge (b := 1000000) (by omega) (by decide)) ⟨vp_in_nI hi (by omega), ?_⟩)
    rw [ci]
    refine br_c (fun c => rx_energy_walk hn hW ?_) (fun c => step ct ?_)
    · refine br_c (fun c2 => nm_r (nI_1 ct) (step (ct + 1) ?_)) (fun c2 => step ct ?_)
      · rw [rf_k_t (P := fun m => m i = some j ∧ rf_EN ba te m n = wt) (m := m) ⟨(rd m hW).mp c, c2⟩]; rfl
      · rw [rf_k_f (P := fun m => m i = some j ∧ rf_EN ba te m n = wt) (m := m) (fun z => c2 z.2)]; rfl
    · rw [rf_k_f (P := fun m => m i = some j ∧ rf_EN ba te m n = wt) (m := m) (fun z => c ((rd m hW).mpr z.1))]; rfl
  | cons m2 l ih =>
    intro m st ct hgo hWs hst h
    have hW := hWs m (List.mem_cons_self ..)
    have hlen : (m2 :: l).length = l.length + 1 := rfl
    obtain ⟨hno, hgo'⟩ := hgo
    have step : ∀ c' : Nat, c' + rf_k (fun m => m i = some j ∧ rf_EN ba te m n = wt) (m2 :: l) = ct + rf_k (fun m => m i = some j ∧ rf_EN ba te m n = wt) (m :: m2 :: l) → wX_countWithPair_58 post (wX_countWithPair_17 post wt (nI i) (nI j) (l.length + 2)) wt (nI i) (nI j) (nI c') (nI st) (nI mm) (nI n) ls tl ba bl te tr (rf_c (-3) t m) be := by
      intro c' e
      refine rx_step hn hm hc hW (fun m' z => ?_) (fun z => by rw [hno] at z; cases z)
      rw [hno] at z
      have z' := Option.some.inj z
      subst z'
      refine nm_r (nI_1 st) (ih m2 (st + 1) c' hgo' (fun x hx => hWs x (List.mem_cons_of_mem _ hx)) (by omega) ?_)
      intro m'
      rw [e]; exact h m'
    refine br_f (by decide) (br_f (nI_ge (b := 1000000) (by omega) (by decide)) ⟨vp_in_nI hi (by omega), ?_⟩)
    rw [ci]
    refine br_c (fun c => rx_energy_walk hn hW ?_) (fun c => step ct ?_)
    · refine br_c (fun c2 => nm_r (nI_1 ct) (step (ct + 1) ?_)) (fun c2 => step ct ?_)
      · rw [rf_k_t (P := fun m => m i = some j ∧ rf_EN ba te m n = wt) (m := m) ⟨(rd m hW).mp c, c2⟩]; omega
      · rw [rf_k_f (P := fun m => m i = some j ∧ rf_EN ba te m n = wt) (m := m) (fun z => c2 z.2)]
    · rw [rf_k_f (P := fun m => m i = some j ∧ rf_EN ba te m n = wt) (m := m) (fun z => c ((rd m hW).mpr z.1))]
theorem rx_pair {post : Int32 → SX → Prop} {wt : Int32} {i j : Nat} (hn : n ≤ 14) (hm : mm ≤ 4) (hm2 : 2 ≤ mm) (hi : i < 14) (hj : j < 14) (hc : ∀ i j, i < j → j < n → (cp i j ↔ rf_cp mm ba bl i j))
    (h : ∀ w, post (nI (rf_k (fun m => m i = some j ∧ rf_EN ba te m n = wt) (rf_L n cp))) (nI mm, nI n, ls, tl, ba, bl, te, tr, w, be)) :
    wpX_countWithPair post (nI mm, nI n, ls, tl, ba, bl, te, tr, wa, be) wt (nI i) (nI j) := by
  unfold wpX_countWithPair
  refine rx_clear_walk ?_
  obtain ⟨l, hl⟩ := rf_L_h (n := n) (cp := cp)
  have hlen := rf_L_len (cp := cp) hn (fun p q h1 h2 h3 => by have := ((hc p q h1 h2).mp h3).1; omega)
  have hx := rf_L_x (n := n) (cp := cp)
  have hWs := rf_L_W (n := n) (cp := cp)
  rw [hl] at hlen hx hWs h
  have hll : (rf_0 :: l).length = l.length + 1 := rfl
  rw [hll] at hlen
  refine ⟨l.length + 2, ?_⟩
  exact rx_pair_loop hn hm hi hj hc l rf_0 0 0 hx.2 hWs (by omega) (fun m' => by rw [Nat.zero_add]; exact h _)
end
end
section
/-! Y: the small methods and its energy -/
theorem ry_b {x z a b : Int32} {post : Int32 → Prop} {v w : Int32} {R : Prop} (h : post (if x = a ∧ z = b then v else w)) (hr : post w → R) : (x = a → ((z = b → post v) ∧ (¬ z = b → R))) ∧ (¬ x = a → R) := by
  by_cases c1 : x = a
  · by_cases c2 : z = b
    · rw [if_pos ⟨c1, c2⟩] at h; exact br_t c1 (br_t c2 h)
    · rw [if_neg (fun y => c2 y.2)] at h; exact br_t c1 (br_f c2 (hr h))
  · rw [if_neg (fun y => c1 y.1)] at h; exact br_f c1 (hr h)
theorem rf_or {P Q : Prop} [Decidable P] [Decidable Q] {v w : Int32} : (if P ∨ Q then v else w) = if P then v else if Q then v else w := by
  by_cases p : P
  · rw [if_pos (Or.inl p), if_pos p]
  · by_cases q : Q
    · rw [if_pos (Or.inr q), if_neg p, if_pos q]
    · rw [if_neg (fun z => z.elim p q), if_neg p, if_neg q]
theorem rf_st_v (a : Nat → Int32) (i j : Nat) : rf_st a i j = 0 ∨ rf_st a i j = 1 ∨ rf_st a i j = 2 ∨ rf_st a i j = -1 := by
  unfold rf_st
  split
  · exact Or.inl rfl
  · split
    · exact Or.inr (Or.inl rfl)
    · split
      · exact Or.inr (Or.inr (Or.inl rfl))
      · exact Or.inr (Or.inr (Or.inr rfl))
theorem rf_st_n (a : Nat → Int32) (i j : Nat) : rf_st a i j < 0 ↔ rf_st a i j = -1 := by
  rcases rf_st_v a i j with h | h | h | h <;> rw [h] <;> decide
theorem rf_F_y {n : Nat} {m : rf_M} {i j : Nat} (hW : rf_W n m) : rf_F m i j ↔ m i = none ∧ m j = none ∧ ∀ k l, k < n → m k = some l → k < l → ¬ (i < k ∧ k < j ∧ j < l) ∧ ¬ (k < i ∧ i < l ∧ l < j) := by
  constructor
  · rintro ⟨f1, f2, f3⟩
    refine ⟨f1, f2, fun k l hk hm hl => ⟨fun z => ?_, fun z => ?_⟩⟩
    · have := f3 k l z.1 z.2.1 hm
      omega
    · have := f3 l k z.2.1 z.2.2 (hW.1 k l hm).2.2.2
      omega
  · rintro ⟨f1, f2, f3⟩
    refine ⟨f1, f2, fun p q h1 h2 hm => ?_⟩
    obtain ⟨a1, a2, a3, a4⟩ := hW.1 p q hm
    refine ⟨?_, ?_⟩
    · rcases Nat.lt_or_ge q i with z | z
      · exact absurd ⟨z, h1, h2⟩ (f3 q p a2 a4 (by omega)).2
      · exact z
    · rcases Nat.lt_or_ge j q with z | z
      · exact absurd ⟨h1, h2, z⟩ (f3 p q a1 hm (by omega)).1
      · exact z
section
variable {mn sz ls : Int32} {ba bl te tr ma be t : Nat → Int32} {n mm : Nat} {m : rf_M}
theorem ry_strength {post : Int32 → Prop} {i j : Nat} (hi : i < 14) (hj : j < 14) (h : post (rf_st ba i j)) : wpY_strength post (ls, mn, sz, ba, bl, te, tr, ma, be) (nI i) (nI j) := by
  have ci : (nI i).toNatClampNeg = i := nI_clamp (by omega)
  have cj : (nI j).toNatClampNeg = j := nI_clamp (by omega)
  unfold rf_st at h
  rw [rf_or, rf_or, rf_or] at h
  unfold wpY_strength
  rw [ci, cj]
  exact ⟨vp_in_nI hi (by omega), nm_e ⟨vp_in_nI hj (by omega), nm_e (ry_b h fun h => ry_b h fun h => ry_b h fun h => ry_b h fun h => ry_b h fun h => ry_b h fun h => h)⟩⟩
theorem ry_canPair {post : Int32 → Prop} {x y : Int32} (hn : n ≤ 14) (hm : mm ≤ 4)
    (h1 : ∀ i j, x = nI i → y = nI j → i < j → j < n → rf_cp mm ba bl i j → post 1)
    (h0 : (∀ i j, x = nI i → y = nI j → i < j → j < n → ¬ rf_cp mm ba bl i j) → post 0) : wpY_canPair post (ls, nI mm, nI n, ba, bl, te, tr, ma, be) x y := by
  unfold wpY_canPair
  refine br_c (fun c => h0 fun i j e1 e2 h3 h4 => ?_) (fun c => ?_)
  · rw [e1] at c; exact absurd c (nI_pos (by omega))
  · obtain ⟨i, hi, rfl⟩ := nI_of c
    refine br_c (fun c2 => h0 fun i' j e1 e2 h3 h4 => ?_) (fun c2 => ?_)
    · rw [e1, e2] at c2; exact absurd c2 (nI_ge h3 (by omega))
    · refine br_c (fun c3 => ?_) (fun c3 => h0 fun i' j e1 e2 h3 h4 => ?_)
      · have hy : ¬ y < 0 := by
          have e := nI_toInt hi
          rw [Int32.lt_iff_toInt_lt, show (0 : Int32).toInt = 0 from by decide]
          rw [Int32.le_iff_toInt_le] at c2
          omega
        obtain ⟨j, hj, rfl⟩ := nI_of hy
        rw [nI_leI hj hi] at c2
        rw [nI_ltI hj (by omega)] at c3
        have hij : i < j := by omega
        have no : ¬ rf_cp mm ba bl i j → post 0 := fun z => h0 (fun i' j' e1 e2 h3 h4 h5 => by
          have e1' := (nI_eq (by omega) (by omega)).mp e1
          have e2' := (nI_eq (by omega) (by omega)).mp e2
          subst e1' e2'
          exact z h5)
        rw [rf_sub1 hij]
        refine pk_lt (j - i - 1) mm (fun hd => no (fun z => by have := z.1; omega)) (fun hd => ?_)
        have ci : (nI i).toNatClampNeg = i := nI_clamp (by omega)
        have cj : (nI j).toNatClampNeg = j := nI_clamp (by omega)
        refine ⟨vp_in_nI (by omega) (by omega), ?_⟩
        rw [ci]
        refine br_c (fun bi => ⟨vp_in_nI (by omega) (by omega), ?_⟩) (fun bi => no (fun z => bi z.2.1))
        rw [cj]
        refine br_c (fun bj => ?_) (fun bj => no (fun z => bj z.2.2.1))
        refine ry_strength (by omega) (by omega) ?_
        refine br_c (fun s => no (fun z => z.2.2.2 ((rf_st_n _ _ _).mp s))) (fun s => h1 i j rfl rfl hij c3 ⟨by omega, bi, bj, fun z => s ((rf_st_n _ _ _).mpr z)⟩)
      · rw [e2] at c3; exact absurd (nI_lt h4 (by omega)) c3
theorem ry_end {post : Int32 → Prop} {i j : Nat} (hi : i < 14) (hj : j < 14) (h : post (rf_en ba te i j)) : wpY_end post (ls, mn, sz, ba, bl, te, tr, ma, be) (nI i) (nI j) := by
  unfold wpY_end
  refine ry_strength hi hj ?_
  unfold rf_en at h
  by_cases s : rf_st ba i j = 0
  · rw [if_pos s] at h; exact br_t s h
  · rw [if_neg s] at h; exact br_f s h
theorem ry_k21 {post : Int32 → Prop} {x z : Int32} (hx : x = 0 ∨ x = 1 → z = 0 ∨ z = 1 ∨ z = 2) (hx1 : x = 1 → z = 1 ∨ z = 2) (h : post (if x = 0 then (if z = 0 then te 0 else if z = 1 then te 1 else te 2) else if x = 1 then (if z = 1 then te 3 else te 4) else te 5)) : wY_stackEnergy_21 post x z ls mn sz ba bl te tr ma be := by
  unfold wY_stackEnergy_21
  by_cases c1 : x = 0
  · rw [if_pos c1] at h
    refine br_t c1 ?_
    rcases hx (Or.inl c1) with e | e | e <;> subst e
    · exact ⟨vp_in_iff.mpr (by decide), h⟩
    · exact ⟨vp_in_iff.mpr (by decide), h⟩
    · exact ⟨vp_in_iff.mpr (by decide), h⟩
  · rw [if_neg c1] at h
    refine br_f c1 ?_
    by_cases c2 : x = 1
    · rw [if_pos c2] at h
      refine br_t c2 ?_
      rcases hx1 c2 with e | e <;> subst e
      · exact ⟨vp_in_iff.mpr (by decide), h⟩
      · exact ⟨vp_in_iff.mpr (by decide), h⟩
    · rw [if_neg c2] at h; exact br_f c2 h
theorem ry_stack {post : Int32 → Prop} {s t : Int32} (hs : s = 0 ∨ s = 1 ∨ s = 2 ∨ s = -1) (ht : t = 0 ∨ t = 1 ∨ t = 2 ∨ t = -1) (h : post (rf_sk te s t)) : wpY_stackEnergy post (ls, mn, sz, ba, bl, te, tr, ma, be) s t := by
  unfold wpY_stackEnergy wY_stackEnergy_10
  unfold rf_sk at h
  by_cases c : t ≤ s
  · have d : ¬ s < t := Int32.not_lt.mpr c
    simp only [if_neg d] at h
    refine br_t c (br_t c (ry_k21 ?_ ?_ h))
    · rcases hs with e | e | e | e <;> rcases ht with e' | e' | e' | e' <;> subst e <;> subst e' <;> revert c <;> decide
    · rcases hs with e | e | e | e <;> rcases ht with e' | e' | e' | e' <;> subst e <;> subst e' <;> revert c <;> decide
  · have d : s < t := Int32.not_le.mp c
    simp only [if_pos d] at h
    refine br_f c (br_f c (ry_k21 ?_ ?_ h))
    · rcases hs with e | e | e | e <;> rcases ht with e' | e' | e' | e' <;> subst e <;> subst e' <;> revert c <;> decide
    · rcases hs with e | e | e | e <;> rcases ht with e' | e' | e' | e' <;> subst e <;> subst e' <;> revert c <;> decide
theorem ry_one {post : Int32 → Prop} {i j k l : Nat} (h1 : i < k) (h2 : k < 14) (h3 : l < j) (h4 : j < 14) (h : post (rf_on ba te i j k l)) : wpY_oneInside post (ls, mn, sz, ba, bl, te, tr, ma, be) (nI i) (nI j) (nI k) (nI l) := by
  unfold wpY_oneInside
  unfold rf_on at h
  refine nm_r (rf_sub1 h1) (nm_r (rf_sub1 h3) (ry_strength (by omega) (by omega) (ry_strength (by omega) (by omega) ?_)))
  by_cases c : k - i - 1 = 0 ∧ j - l - 1 = 0
  · rw [if_pos c] at h
    refine pk_eq (k - i - 1) 0 (fun c1 => ?_) (fun c1 => absurd c.1 c1)
    refine pk_eq (j - l - 1) 0 (fun c2 => ?_) (fun c2 => absurd c.2 c2)
    exact ry_stack (rf_st_v _ _ _) (rf_st_v _ _ _) h
  · rw [if_neg c] at h
    have g : wY_oneInside_51 post (nI i) (nI j) (nI k) (nI l) (nI (k - i - 1)) (nI (j - l - 1)) ls mn sz ba bl te tr ma be := by
      unfold wY_oneInside_51 wY_oneInside_77 wY_oneInside_122
      refine ry_end (by omega) (by omega) (ry_end (by omega) (by omega) (nm_e ?_))
      rw [nI_add]
      refine pk_eq (k - i - 1) 0 (fun c1 => ?_) (fun c1 => ?_)
      · rw [if_pos (Or.inl c1)] at h; exact h
      · refine pk_eq (j - l - 1) 0 (fun d => ?_) (fun d => ?_)
        · rw [if_pos (Or.inr d)] at h; exact h
        · rw [if_neg (fun z => z.elim c1 d)] at h
          refine pk_le (k - i - 1) (j - l - 1) (fun e => ?_) (fun e => ?_)
          · rw [if_neg (by omega)] at h; rw [pk_sub e]; exact h
          · rw [if_pos e] at h; rw [pk_sub (by omega)]; exact h
    exact pk_eq (k - i - 1) 0 (fun c1 => pk_eq (j - l - 1) 0 (fun c2 => absurd ⟨c1, c2⟩ c) (fun c2 => g)) (fun c1 => g)
theorem ry_fits {post : Int32 → Prop} {i j : Nat} (hn : n ≤ 14) (hij : i < j) (hj : j < n) (hW : rf_W n m)
    (h1 : rf_F m i j → post 1) (h0 : ¬ rf_F m i j → post 0) : wpY_fits post (ls, mn, nI n, ba, bl, te, tr, rf_c (-1) t m, be) (nI i) (nI j) := by
  have ci : (nI i).toNatClampNeg = i := nI_clamp (by omega)
  have cj : (nI j).toNatClampNeg = j := nI_clamp (by omega)
  unfold wpY_fits
  rw [ci, cj]
  cases hmi : m i with
  | some q =>
    have hq := (hW.1 i q hmi).2.1
    exact ⟨vp_in_nI (by omega) (by omega), br_t (by rw [rf_c_s (by omega) hmi]; exact nI_pos' (by omega)) (h0 fun z => by rw [z.1] at hmi; cases hmi)⟩
  | none =>
    refine ⟨vp_in_nI (by omega) (by omega), br_f (by rw [rf_c_n (by omega) hmi]; decide) ⟨vp_in_nI (by omega) (by omega), ?_⟩⟩
    cases hmj : m j with
    | some q =>
      have hq := (hW.1 j q hmj).2.1
      exact br_f (by rw [rf_c_s (by omega) hmj]; exact nI_pos (by omega)) (h0 fun z => by rw [z.2.1] at hmj; cases hmj)
    | none =>
      refine br_t (by rw [rf_c_n (by omega) hmj]; decide) ?_
      have key : ∀ d k, k + d = n → (∀ r l, r < k → m r = some l → r < l → ¬ (i < r ∧ r < j ∧ j < l) ∧ ¬ (r < i ∧ i < l ∧ l < j)) → wY_fits_22 post (nI i) (nI j) ls mn (nI n) ba bl te tr (rf_c (-1) t m) be (d + 1) (nI k) := by
        intro d
        induction d with
        | zero =>
          intro k hk hall
          refine br_t (nI_le (by omega) (by omega)) (h1 ((rf_F_y hW).mpr ⟨hmi, hmj, fun r l r1 => hall r l (by omega)⟩))
        | succ d ih =>
          intro k hk hall
          have ck : (nI k).toNatClampNeg = k := nI_clamp (by omega)
          refine br_f (nI_ge (by omega) (by omega)) ⟨vp_in_nI (by omega) (by omega), ?_⟩
          rw [ck]
          have nxt : (∀ l, m k = some l → k < l → ¬ (i < k ∧ k < j ∧ j < l) ∧ ¬ (k < i ∧ i < l ∧ l < j)) → wY_fits_22 post (nI i) (nI j) ls mn (nI n) ba bl te tr (rf_c (-1) t m) be (d + 1) (nI (k + 1)) := fun hq => ih (k + 1) (by omega) (fun r l r1 r2 r3 => by
            by_cases e : r = k
            · subst e; exact hq l r2 r3
            · exact hall r l (by omega) r2 r3)
          cases hm : m k with
          | none => exact nm_r (rf_c_n (by omega) hm) (br_t (rf_zle rf_z1 (by omega)) (nm_r (nI_1 k) (nxt fun l z => by rw [hm] at z; cases z)))
          | some l =>
            have hl := (hW.1 k l hm).2.1
            refine nm_r (rf_c_s (by omega) hm) (pk_le l k (fun c => nm_r (nI_1 k) (nxt fun l' z z2 => by rw [hm] at z; cases z; omega)) (fun c => ?_))
            have bad : (i < k ∧ k < j ∧ j < l) ∨ (k < i ∧ i < l ∧ l < j) → post 0 := fun z => h0 fun f => by
              have := ((rf_F_y hW).mp f).2.2 k l (by omega) hm c
              exact z.elim this.1 this.2
            have g60 : ¬ (i < k ∧ k < j ∧ j < l) → wY_fits_60 post (wY_fits_22 post (nI i) (nI j) ls mn (nI n) ba bl te tr (rf_c (-1) t m) be (d + 1)) (nI i) (nI j) (nI k) (nI l) ls mn (nI n) ba bl te tr (rf_c (-1) t m) be := by
              intro z
              have go : ¬ (k < i ∧ i < l ∧ l < j) → wY_fits_22 post (nI i) (nI j) ls mn (nI n) ba bl te tr (rf_c (-1) t m) be (d + 1) (nI (k + 1)) := fun z2 => nxt fun l' e _ => by rw [hm] at e; cases e; exact ⟨z, z2⟩
              refine pk_le i k (fun c1 => nm_r (nI_1 k) (go fun y => by omega)) (fun c1 => ?_)
              refine pk_le l i (fun c2 => nm_r (nI_1 k) (go fun y => by omega)) (fun c2 => ?_)
              exact pk_le j l (fun c3 => nm_r (nI_1 k) (go fun y => by omega)) (fun c3 => bad (Or.inr ⟨c1, c2, c3⟩))
            refine pk_le k i (fun c1 => g60 fun y => by omega) (fun c1 => ?_)
            refine pk_le j k (fun c2 => g60 fun y => by omega) (fun c2 => ?_)
            exact pk_lt j l (fun c3 => bad (Or.inl ⟨c1, c2, c3⟩)) (fun c3 => g60 fun y => by omega)
      exact ⟨_, key n 0 (by omega) (fun r l r1 => by omega)⟩
end
end
section
/-! Y: the energy of a structure -/
section
variable {mn sz ls : Int32} {ba bl te tr ma be t : Nat → Int32} {n mm : Nat} {m : rf_M}
theorem ry_inside {post : Int32 → Prop} {k l i j : Nat} (hn : n ≤ 14) (hW : rf_W n m) (hk : k < 14) (hl : l < 14) (hi : i < 14) (hj : j < 14)
    (h1 : rf_I m i j k l → post 1) (h0 : ¬ rf_I m i j k l → post 0) : wpY_directlyInside post (ls, mn, sz, ba, bl, te, tr, rf_c (-1) t m, be) (nI k) (nI l) (nI i) (nI j) := by
  unfold wpY_directlyInside
  refine pk_le k i (fun c => h0 fun z => by have := z.1; omega) (fun c => ?_)
  refine pk_lt l j (fun c2 => nm_r (nI_1 i) ?_) (fun c2 => h0 fun z => by have := z.2.1; omega)
  have key : ∀ d p, p + d = k → i < p → (∀ r q, i < r → r < p → m r = some q → ¬ (l < q ∧ q < j)) → wY_directlyInside_18 post (nI k) (nI l) (nI j) ls mn sz ba bl te tr (rf_c (-1) t m) be (d + 1) (nI p) := by
    intro d
    induction d with
    | zero =>
      intro p hp hip hall
      exact br_t (nI_le (by omega) (by omega)) (h1 ⟨c, c2, fun r q r1 r2 => hall r q r1 (by omega)⟩)
    | succ d ih =>
      intro p hp hip hall
      have cp : (nI p).toNatClampNeg = p := nI_clamp (by omega)
      refine br_f (nI_ge (by omega) (by omega)) ⟨vp_in_nI (by omega) (by omega), ?_⟩
      rw [cp]
      have nxt : (∀ q, m p = some q → ¬ (l < q ∧ q < j)) → wY_directlyInside_18 post (nI k) (nI l) (nI j) ls mn sz ba bl te tr (rf_c (-1) t m) be (d + 1) (nI (p + 1)) := fun hq => ih (p + 1) (by omega) (by omega) (fun r q r1 r2 r3 => by
        by_cases e : r = p
        · subst e; exact hq q r3
        · exact hall r q r1 (by omega) r3)
      cases hm : m p with
      | none =>
        rw [rf_c_n (by omega) hm]
        exact br_t (rf_zle rf_z1 (by omega)) (nm_r (nI_1 p) (nxt fun q z => by rw [hm] at z; cases z))
      | some q =>
        have hq := (hW.1 p q hm).2.1
        rw [rf_c_s (by omega) hm]
        refine pk_le q l (fun d1 => nm_r (nI_1 p) (nxt fun q' z => by rw [hm] at z; cases z; omega)) (fun d1 => ⟨vp_in_nI (by omega) (by omega), ?_⟩)
        exact pk_le j q (fun d2 => nm_r (nI_1 p) (nxt fun q' z => by rw [hm] at z; cases z; omega)) (fun d2 => h0 fun z => z.2.2 p q hip (by omega) hm ⟨d1, d2⟩)
  exact ⟨_, key (k - (i + 1)) (i + 1) (by omega) (by omega) (fun r q r1 r2 => by omega)⟩
theorem ry_pairs {post : Int32 → Prop} {i j : Nat} (hn : n ≤ 14) (hW : rf_W n m) (hij : i < j) (hj : j < 14) (h : post (nI (rf_ct (rf_C m i j) j))) : wpY_pairsDirectlyInside post (ls, mn, sz, ba, bl, te, tr, rf_c (-1) t m, be) (nI i) (nI j) := by
  unfold wpY_pairsDirectlyInside
  refine nm_r (nI_1 i) ?_
  have lo : ∀ k, k < i + 1 → ¬ rf_C m i j k := fun k hk ⟨l, z1, z2, z3⟩ => by have := z3.1; omega
  have key : ∀ d p, p + d = j → i < p → wY_pairsDirectlyInside_7 post (nI i) (nI j) ls mn sz ba bl te tr (rf_c (-1) t m) be (d + 1) (nI (rf_ct (rf_C m i j) p)) (nI p) := by
    intro d
    induction d with
    | zero =>
      intro p hp hip
      have e : p = j := by omega
      subst e
      exact br_t (nI_le (Nat.le_refl _) (by omega)) h
    | succ d ih =>
      intro p hp hip
      have cp : (nI p).toNatClampNeg = p := nI_clamp (by omega)
      have g := ih (p + 1) (by omega) (by omega)
      refine br_f (nI_ge (by omega) (by omega)) ⟨vp_in_nI (by omega) (by omega), ?_⟩
      rw [cp]
      by_cases hm : ∃ l, m p = some l ∧ p < l
      · obtain ⟨l, hm, hl⟩ := hm
        have hl2 := (hW.1 p l hm).2.1
        rw [rf_c_s (by omega) hm]
        refine br_f (nI_ge hl (by omega)) ⟨vp_in_nI (by omega) (by omega), ry_inside hn hW (by omega) (by omega) (by omega) (by omega) (fun z => ?_) (fun z => ?_)⟩
        · rw [rf_ct_t (show rf_C m i j p from ⟨l, hm, hl, z⟩)] at g
          exact br_f (by decide) (nm_r (nI_1 _) (nm_r (nI_1 p) g))
        · rw [rf_ct_f (fun ⟨l', y1, y2, y3⟩ => z (by rw [hm] at y1; cases y1; exact y3))] at g
          exact br_t rfl (nm_r (nI_1 p) g)
      · rw [rf_ct_f (fun ⟨l', y1, y2, y3⟩ => hm ⟨l', y1, y2⟩)] at g
        cases hmp : m p with
        | none => rw [rf_c_n (by omega) hmp]; exact br_t (rf_zle rf_z1 (by omega)) (nm_r (nI_1 p) g)
        | some l =>
          have hl2 := (hW.1 p l hmp).2.1
          rw [rf_c_s (by omega) hmp]
          exact br_t (nI_le (Nat.le_of_not_lt fun z => hm ⟨l, hmp, z⟩) (by omega)) (nm_r (nI_1 p) g)
  have g := key (j - (i + 1)) (i + 1) (by omega) (by omega)
  rw [rf_ct_0 _ lo] at g
  exact ⟨_, g⟩
theorem ry_covered {post : Int32 → Prop} {p i j : Nat} (hn : n ≤ 14) (hW : rf_W n m) (hip : i < p) (hp : p < 14) (hj : j < 14)
    (h1 : rf_V m i j p → post 1) (h0 : ¬ rf_V m i j p → post 0) : wpY_covered post (ls, mn, sz, ba, bl, te, tr, rf_c (-1) t m, be) (nI p) (nI i) (nI j) := by
  unfold wpY_covered
  refine nm_r (nI_1 i) ?_
  have key : ∀ d k, k + d = p → i < k → (∀ r l, i < r → r < k → m r = some l → p < l → ¬ rf_I m i j r l) → wY_covered_5 post (nI p) (nI i) (nI j) ls mn sz ba bl te tr (rf_c (-1) t m) be (d + 1) (nI k) := by
    intro d
    induction d with
    | zero =>
      intro k hk hik hall
      exact br_t (nI_le (by omega) (by omega)) (h0 fun ⟨r, l, z1, z2, z3, z4, z5⟩ => hall r l z1 (by omega) z3 z4 z5)
    | succ d ih =>
      intro k hk hik hall
      have ck : (nI k).toNatClampNeg = k := nI_clamp (by omega)
      refine br_f (nI_ge (by omega) (by omega)) ⟨vp_in_nI (by omega) (by omega), ?_⟩
      rw [ck]
      have nxt : (∀ l, m k = some l → p < l → ¬ rf_I m i j k l) → wY_covered_5 post (nI p) (nI i) (nI j) ls mn sz ba bl te tr (rf_c (-1) t m) be (d + 1) (nI (k + 1)) := fun hq => ih (k + 1) (by omega) (by omega) (fun r l r1 r2 r3 r4 => by
        by_cases e : r = k
        · subst e; exact hq l r3 r4
        · exact hall r l r1 (by omega) r3 r4)
      cases hm : m k with
      | none =>
        rw [rf_c_n (by omega) hm]
        exact br_t (rf_zle rf_z1 (by omega)) (nm_r (nI_1 k) (nxt fun l z => by rw [hm] at z; cases z))
      | some l =>
        have hl := (hW.1 k l hm).2.1
        rw [rf_c_s (by omega) hm]
        refine pk_le l p (fun d1 => nm_r (nI_1 k) (nxt fun l' z z2 => by rw [hm] at z; cases z; omega)) (fun d1 => ⟨vp_in_nI (by omega) (by omega), ?_⟩)
        refine ry_inside hn hW (by omega) (by omega) (by omega) (by omega) (fun z => ?_) (fun z => ?_)
        · exact br_f (by decide) (h1 ⟨k, l, hik, by omega, hm, d1, z⟩)
        · exact br_t rfl (nm_r (nI_1 k) (nxt fun l' y y2 => by rw [hm] at y; cases y; exact z))
  exact ⟨_, key (p - (i + 1)) (i + 1) (by omega) (by omega) (fun r l r1 r2 => by omega)⟩
theorem ry_unp {post : Int32 → Prop} {i j : Nat} (hn : n ≤ 14) (hW : rf_W n m) (hij : i < j) (hj : j < 14) (h : post (nI (rf_ct (rf_U m i j) j))) : wpY_unpairedInLoop post (ls, mn, sz, ba, bl, te, tr, rf_c (-1) t m, be) (nI i) (nI j) := by
  unfold wpY_unpairedInLoop
  refine nm_r (nI_1 i) ?_
  have lu : ∀ k, k < i + 1 → ¬ rf_U m i j k := fun k hk z => by have := z.1; omega
  have key : ∀ d p, p + d = j → i < p → wY_unpairedInLoop_7 post (nI i) (nI j) ls mn sz ba bl te tr (rf_c (-1) t m) be (d + 1) (nI (rf_ct (rf_U m i j) p)) (nI p) := by
    intro d
    induction d with
    | zero =>
      intro p hp hip
      have e : p = j := by omega
      subst e
      exact br_t (nI_le (Nat.le_refl _) (by omega)) h
    | succ d ih =>
      intro p hp hip
      have cp : (nI p).toNatClampNeg = p := nI_clamp (by omega)
      have g := ih (p + 1) (by omega) (by omega)
      refine br_f (nI_ge (by omega) (by omega)) ⟨vp_in_nI (by omega) (by omega), ?_⟩
      rw [cp]
      cases hm : m p with
      | some l =>
        have hl2 := (hW.1 p l hm).2.1
        rw [rf_ct_f (fun z => by have := z.2.1; rw [hm] at this; cases this)] at g
        rw [rf_c_s (by omega) hm]
        exact br_t (nI_pos' (by omega)) (nm_r (nI_1 p) g)
      | none =>
        rw [rf_c_n (by omega) hm]
        refine br_f (by decide) (ry_covered hn hW hip (by omega) hj (fun z => ?_) (fun z => ?_))
        · rw [rf_ct_f (fun y => y.2.2 z)] at g
          exact br_f (by decide) (nm_r (nI_1 p) g)
        · rw [rf_ct_t (show rf_U m i j p from ⟨hip, hm, z⟩)] at g
          exact br_t rfl (nm_r (nI_1 _) (nm_r (nI_1 p) g))
  have g := key (j - (i + 1)) (i + 1) (by omega) (by omega)
  rw [rf_ct_0 _ lu] at g
  exact ⟨_, g⟩
theorem ry_loop {post : Int32 → Prop} {i j : Nat} (hn : n ≤ 14) (hW : rf_W n m) (hij : m i = some j) (hlt : i < j) (h : post (rf_LE ba te m i j)) : wpY_loopEnergy post (ls, mn, sz, ba, bl, te, tr, rf_c (-1) t m, be) (nI i) (nI j) := by
  obtain ⟨hi, hj, -, -⟩ := hW.1 i j hij
  have hc := rf_ct_le (rf_C m i j) j
  have lo : ∀ k, k < i + 1 → ¬ rf_C m i j k := fun k hk ⟨l, z1, z2, z3⟩ => by have := z3.1; omega
  unfold wpY_loopEnergy
  refine ry_pairs hn hW hlt (by omega) (ry_unp hn hW hlt (by omega) ?_)
  unfold rf_LE at h
  refine pk_eq (rf_ct (rf_C m i j) j) 0 (fun c => ?_) (fun c => ?_)
  · rw [if_pos c] at h
    exact ry_end (by omega) (by omega) h
  · rw [if_neg c] at h
    refine nm_r (nI_1 i) ?_
    have key : ∀ d p, p + d = j → i < p → wY_loopEnergy_56 post (nI i) (nI j) (nI (rf_ct (rf_C m i j) j)) (nI (rf_ct (rf_U m i j) j)) ls mn sz ba bl te tr (rf_c (-1) t m) be (d + 1)
        (rf_sm (rf_C m i j) (fun k => rf_en ba te k (rf_mt m k)) p) (nI (rf_la (rf_C m i j) i p)) (nI p) := by
      intro d
      induction d with
      | zero =>
        intro p hp hip
        have e : p = j := by omega
        subst e
        obtain ⟨o1, o2, o3⟩ := rf_one (P := rf_C m i p) (f := fun k => rf_en ba te k (rf_mt m k)) (i := i) p
        refine br_t (nI_le (Nat.le_refl _) (by omega)) ?_
        refine pk_eq (rf_ct (rf_C m i p) p) 1 (fun c1 => ?_) (fun c1 => ?_)
        · rw [if_pos c1] at h
          obtain ⟨⟨l, l1, l2, l3⟩, q2⟩ := o2 (by omega)
          have hl := hW.1 _ _ l1
          have ck : (nI (rf_la (rf_C m i p) i p)).toNatClampNeg = rf_la (rf_C m i p) i p := nI_clamp (by omega)
          rw [rf_mt_s l1] at h
          rw [ck, rf_c_s (by omega) l1]
          exact ⟨vp_in_nI (by omega) (by omega), ry_one l3.1 (by omega) l3.2.1 (by omega) h⟩
        · rw [if_neg c1] at h
          refine ry_end (by omega) (by omega) ?_
          rw [nI_1]; exact h
      | succ d ih =>
        intro p hp hip
        have cp : (nI p).toNatClampNeg = p := nI_clamp (by omega)
        have g := ih (p + 1) (by omega) (by omega)
        refine br_f (nI_ge (by omega) (by omega)) ⟨vp_in_nI (by omega) (by omega), ?_⟩
        rw [cp]
        by_cases hm : ∃ l, m p = some l ∧ p < l
        · obtain ⟨l, hm, hl⟩ := hm
          have hl2 := (hW.1 p l hm).2.1
          rw [rf_c_s (by omega) hm]
          refine br_f (nI_ge hl (by omega)) ⟨vp_in_nI (by omega) (by omega), ry_inside hn hW (by omega) (by omega) (by omega) (by omega) (fun z => ?_) (fun z => ?_)⟩
          · have hC : rf_C m i j p := ⟨l, hm, hl, z⟩
            rw [rf_sm_t hC, rf_la_t hC, rf_mt_s hm] at g
            exact br_f (by decide) ⟨vp_in_nI (by omega) (by omega), ry_end (by omega) (by omega) (nm_e (nm_r (nI_1 p) g))⟩
          · have hC : ¬ rf_C m i j p := fun ⟨l', y1, y2, y3⟩ => z (by rw [hm] at y1; cases y1; exact y3)
            rw [rf_sm_f hC, rf_la_f hC] at g
            exact br_t rfl (nm_r (nI_1 p) g)
        · have hC : ¬ rf_C m i j p := fun ⟨l', y1, y2, y3⟩ => hm ⟨l', y1, y2⟩
          rw [rf_sm_f hC, rf_la_f hC] at g
          cases hmp : m p with
          | none => rw [rf_c_n (by omega) hmp]; exact br_t (rf_zle rf_z1 (by omega)) (nm_r (nI_1 p) g)
          | some l =>
            have hl2 := (hW.1 p l hmp).2.1
            rw [rf_c_s (by omega) hmp]
            exact br_t (nI_le (Nat.le_of_not_lt fun z => hm ⟨l, hmp, z⟩) (by omega)) (nm_r (nI_1 p) g)
    have g := key (j - (i + 1)) (i + 1) (by omega) (by omega)
    rw [rf_sm_0 _ lo, rf_la_0 _ lo] at g
    exact ⟨_, g⟩
theorem ry_outer {post : Int32 → Prop} {i j : Nat} (hn : n ≤ 14) (hW : rf_W n m) (hi : i < 14) (hj : j < 14)
    (h1 : rf_O m i j → post 1) (h0 : ¬ rf_O m i j → post 0) : wpY_outer post (ls, mn, sz, ba, bl, te, tr, rf_c (-1) t m, be) (nI i) (nI j) := by
  unfold wpY_outer
  have key : ∀ d p, p + d = i → (∀ r q, r < p → m r = some q → ¬ j < q) → wY_outer_2 post (nI i) (nI j) ls mn sz ba bl te tr (rf_c (-1) t m) be (d + 1) (nI p) := by
    intro d
    induction d with
    | zero =>
      intro p hp hall
      exact br_t (nI_le (by omega) (by omega)) (h1 fun r q r1 => hall r q (by omega))
    | succ d ih =>
      intro p hp hall
      have cp : (nI p).toNatClampNeg = p := nI_clamp (by omega)
      refine br_f (nI_ge (by omega) (by omega)) ⟨vp_in_nI (by omega) (by omega), ?_⟩
      rw [cp]
      have nxt : (∀ q, m p = some q → ¬ j < q) → wY_outer_2 post (nI i) (nI j) ls mn sz ba bl te tr (rf_c (-1) t m) be (d + 1) (nI (p + 1)) := fun hq => ih (p + 1) (by omega) (fun r q r1 r2 => by
        by_cases e : r = p
        · subst e; exact hq q r2
        · exact hall r q (by omega) r2)
      cases hm : m p with
      | none =>
        rw [rf_c_n (by omega) hm]
        exact br_t (rf_zle rf_z1 (by omega)) (nm_r (nI_1 p) (nxt fun q z => by rw [hm] at z; cases z))
      | some q =>
        have hq := (hW.1 p q hm).2.1
        rw [rf_c_s (by omega) hm]
        exact pk_le q j (fun d1 => nm_r (nI_1 p) (nxt fun q' z => by rw [hm] at z; cases z; omega)) (fun d1 => h0 fun z => z p q (by omega) hm d1)
  exact ⟨_, key i 0 (by omega) (fun r q r1 => by omega)⟩
theorem ry_energy {post : Int32 → Prop} (hn : n ≤ 14) (hW : rf_W n m) (h : post (rf_EN ba te m n)) : wpY_energy post (ls, mn, nI n, ba, bl, te, tr, rf_c (-1) t m, be) := by
  unfold wpY_energy
  have key : ∀ d i, i + d = n → wY_energy_4 post ls mn (nI n) ba bl te tr (rf_c (-1) t m) be (d + 1) (rf_EN ba te m i) (nI i) := by
    intro d
    induction d with
    | zero =>
      intro i hi
      have e : i = n := by omega
      subst e
      exact br_t (nI_le (Nat.le_refl _) (by omega)) h
    | succ d ih =>
      intro i hi
      have ci : (nI i).toNatClampNeg = i := nI_clamp (by omega)
      have g := ih (i + 1) (by omega)
      refine br_f (nI_ge (by omega) (by omega)) ⟨vp_in_nI (by omega) (by omega), ?_⟩
      rw [ci]
      cases hm : m i with
      | none =>
        rw [rf_EN_n hm] at g
        exact nm_r (rf_c_n (by omega) hm) (br_t (rf_zle rf_z1 (by omega)) (nm_r (nI_1 i) g))
      | some j =>
        have hj2 := (hW.1 i j hm).2.1
        refine nm_r (rf_c_s (by omega) hm) (pk_le j i (fun c => ?_) (fun c => ?_))
        · rw [rf_EN_d hm (by omega)] at g
          exact nm_r (nI_1 i) g
        · refine ry_loop hn hW hm c (nm_e (ry_outer hn hW (by omega) (by omega) (fun o => ?_) (fun o => ?_)))
          · rw [rf_EN_o hm c o] at g
            exact br_f (by decide) (ry_end (by omega) (by omega) (nm_e (nm_r (nI_1 i) g)))
          · rw [rf_EN_i hm c o] at g
            exact br_t rfl (nm_r (nI_1 i) g)
  exact ⟨_, key n 0 (by omega)⟩
end
end
section
/-! Y: the walk through all structures -/
theorem rf_up_ok {ok : Nat → Prop} : ∀ (k q r : Nat), rf_up ok k q = some r → ok r := by
  intro k
  induction k with
  | zero => intro q r h; cases h
  | succ k ih =>
    intro q r h
    simp only [rf_up] at h
    by_cases o : ok q
    · rw [if_pos (rf_dt o)] at h; cases h; exact o
    · rw [if_neg (rf_df o)] at h; exact ih _ _ h
theorem rf_pu_W {n : Nat} {cp : Nat → Nat → Prop} {m : rf_M} {p q : Nat} (hW : rf_W n m) : rf_W n (rf_pu n (rf_ok n cp) m p q) := by
  unfold rf_pu
  cases e : rf_up (rf_ok n cp m p) (n - q) q with
  | none => exact hW
  | some r =>
    have o := rf_up_ok _ _ _ e
    exact rf_Wj hW o.1 o.2.1 o.2.2.2
section
variable {mn sz ls : Int32} {ba bl te tr ma be t : Nat → Int32} {n mm : Nat} {m : rf_M} {cp : Nat → Nat → Prop}
theorem ry_pairUp {post : Int32 → SY → Prop} {p q : Nat} (hn : n ≤ 14) (hm : mm ≤ 4) (hc : ∀ i j, i < j → j < n → (cp i j ↔ rf_cp mm ba bl i j)) (hW : rf_W n m) (hp : p < n) (hq : q ≤ n)
    (h : ∀ r, post r (ls, nI mm, nI n, ba, bl, te, tr, rf_c (-1) t (rf_pu n (rf_ok n cp) m p q), be)) : wpY_pairUp post (ls, nI mm, nI n, ba, bl, te, tr, rf_c (-1) t m, be) (nI p) (nI q) := by
  unfold wpY_pairUp
  have key : ∀ d q, q + d = n → (∀ r, post r (ls, nI mm, nI n, ba, bl, te, tr, rf_c (-1) t (rf_pu n (rf_ok n cp) m p q), be)) → wY_pairUp_2 post (nI p) ls (nI mm) (nI n) ba bl te tr (rf_c (-1) t m) be (d + 1) (nI q) := by
    intro d
    induction d with
    | zero =>
      intro q hq h
      rw [rf_pu_n (by omega)] at h
      exact br_t (nI_le (by omega) (by omega)) (h 0)
    | succ d ih =>
      intro q hq h
      have no : ¬ rf_ok n cp m p q → wY_pairUp_2 post (nI p) ls (nI mm) (nI n) ba bl te tr (rf_c (-1) t m) be (d + 1) (nI (q + 1)) := fun z => by
        rw [rf_pu_f z (by omega)] at h
        exact ih (q + 1) (by omega) h
      refine br_f (nI_ge (by omega) (by omega)) ?_
      refine ry_canPair hn hm (fun i j e1 e2 h3 h4 h5 => ?_) (fun hno => ?_)
      · refine br_f (by decide) ?_
        have e1' := (nI_eq (by omega) (by omega)).mp e1
        have e2' := (nI_eq (by omega) (by omega)).mp e2
        subst e1' e2'
        refine ry_fits hn h3 h4 hW (fun f => ?_) (fun f => ?_)
        · rw [rf_pu_t (show rf_ok n cp m p q from ⟨h3, h4, (hc _ _ h3 h4).mpr h5, f⟩) h4] at h
          have c1 : (nI p).toNatClampNeg = p := nI_clamp (by omega)
          have c2 : (nI q).toNatClampNeg = q := nI_clamp (by omega)
          refine br_f (by decide) ⟨vp_in_nI (by omega) (by omega), nm_e ⟨vp_in_nI (by omega) (by omega), nm_r (by rw [c1, c2, rf_c_j (by omega) (by omega)]) (h 1)⟩⟩
        · exact br_t rfl (nm_r (nI_1 q) (no fun z => f z.2.2.2))
      · exact br_t rfl (nm_r (nI_1 q) (no fun z => hno p q rfl rfl z.1 z.2.1 ((hc _ _ z.1 z.2.1).mp z.2.2.1)))
  exact ⟨_, key (n - q) q (by omega) h⟩
theorem ry_fill {post : SY → Prop} {p : Nat} (hn : n ≤ 14) (hm : mm ≤ 4) (hc : ∀ i j, i < j → j < n → (cp i j ↔ rf_cp mm ba bl i j)) (hW : rf_W n m) (hp : p ≤ n)
    (h : post (ls, nI mm, nI n, ba, bl, te, tr, rf_c (-1) t (rf_fl n (rf_ok n cp) (n - p) p m), be)) : wpY_fill post (ls, nI mm, nI n, ba, bl, te, tr, rf_c (-1) t m, be) (nI p) := by
  unfold wpY_fill
  have key : ∀ d p m, p + d = n → rf_W n m → post (ls, nI mm, nI n, ba, bl, te, tr, rf_c (-1) t (rf_fl n (rf_ok n cp) d p m), be) → wY_fill_2 post (d + 1) (nI p) ls (nI mm) (nI n) ba bl te tr (rf_c (-1) t m) be := by
    intro d
    induction d with
    | zero =>
      intro p m hp hW h
      exact br_t (nI_le (by omega) (by omega)) h
    | succ d ih =>
      intro p m hp hW h
      have c1 : (nI p).toNatClampNeg = p := nI_clamp (by omega)
      refine br_f (nI_ge (by omega) (by omega)) ⟨vp_in_nI (by omega) (by omega), ?_⟩
      rw [c1]
      cases hmp : m p with
      | some q =>
        have hq := (hW.1 p q hmp).2.1
        rw [rf_fl_s hmp] at h
        rw [rf_c_s (by omega) hmp]
        exact br_t (nI_pos' (by omega)) (nm_r (nI_1 p) (ih (p + 1) m (by omega) hW h))
      | none =>
        rw [rf_fl_n hmp] at h
        refine br_f (by rw [rf_c_n (by omega) hmp]; decide) ?_
        rw [nI_1 p]
        exact ry_pairUp hn hm hc hW (by omega) (by omega) (fun r => nm_e (ih (p + 1) _ (by omega) (rf_pu_W hW) h))
  exact ⟨_, key (n - p) p m (by omega) hW h⟩
theorem ry_first {post : SY → Prop} (hn : n ≤ 14) (hm : mm ≤ 4) (hc : ∀ i j, i < j → j < n → (cp i j ↔ rf_cp mm ba bl i j))
    (h : post (ls, nI mm, nI n, ba, bl, te, tr, rf_c (-1) ma (rf_fl n (rf_ok n cp) n 0 rf_0), be)) : wpY_toFirst post (ls, nI mm, nI n, ba, bl, te, tr, ma, be) := by
  unfold wpY_toFirst
  have key : ∀ d i, i + d = 14 → wY_toFirst_2 post ls (nI mm) (nI n) (d + 1) (nI i) ba bl te tr (rf_ini (-1) ma i) be := by
    intro d
    induction d with
    | zero =>
      intro i hi
      have e : i = 14 := by omega
      subst e
      refine br_t (by decide) ?_
      rw [rf_ini_e]
      exact ry_fill (p := 0) hn hm hc (rf_W0 n) (by omega) h
    | succ d ih =>
      intro i hi
      have ci : (nI i).toNatClampNeg = i := nI_clamp (by omega)
      have vi : vp_in (nI i) 14 := vp_in_nI (by omega) (by omega)
      refine br_f (nI_ge (b := 14) (by omega) (by decide)) ⟨vi, nm_r (by rw [ci, rf_ini_s]) (nm_r (nI_1 i) (ih (i + 1) (by omega)))⟩
  refine ⟨15, ?_⟩
  have g := key 14 0 rfl
  rw [rf_ini_0] at g
  exact g
theorem ry_step {post : Int32 → SY → Prop} (hn : n ≤ 14) (hm : mm ≤ 4) (hc : ∀ i j, i < j → j < n → (cp i j ↔ rf_cp mm ba bl i j)) (hW : rf_W n m)
    (h1 : ∀ m', rf_ny n (rf_ok n cp) n m = some m' → post 1 (ls, nI mm, nI n, ba, bl, te, tr, rf_c (-1) t m', be))
    (h0 : rf_ny n (rf_ok n cp) n m = none → post 0 (ls, nI mm, nI n, ba, bl, te, tr, rf_c (-1) t m, be)) : wpY_toNext post (ls, nI mm, nI n, ba, bl, te, tr, rf_c (-1) t m, be) := by
  unfold wpY_toNext
  have key : ∀ p, p ≤ n → (∀ m', rf_ny n (rf_ok n cp) p m = some m' → post 1 (ls, nI mm, nI n, ba, bl, te, tr, rf_c (-1) t m', be)) →
      (rf_ny n (rf_ok n cp) p m = none → post 0 (ls, nI mm, nI n, ba, bl, te, tr, rf_c (-1) t m, be)) → wY_toNext_7 post ls (nI mm) (nI n) ba bl te tr (rf_c (-1) t m) be (p + 1) (nI p + (-1)) := by
    intro p
    induction p with
    | zero =>
      intro hp h1 h0
      exact br_t (by decide) (h0 rfl)
    | succ p ih =>
      intro hp h1 h0
      rw [pk_m1]
      have c1 : (nI p).toNatClampNeg = p := nI_clamp (by omega)
      refine br_f (nI_pos (by omega)) ⟨vp_in_nI (by omega) (by omega), ?_⟩
      rw [c1]
      cases hmp : m p with
      | none =>
        rw [rf_ny_n hmp] at h1 h0
        exact nm_r (rf_c_n (by omega) hmp) (br_t (rf_zle rf_z1 (by omega)) (nm_e (ih (by omega) h1 h0)))
      | some q =>
        have hq := (hW.1 p q hmp).2.1
        refine nm_r (rf_c_s (by omega) hmp) (pk_le q p (fun c => ?_) (fun c => ?_))
        · rw [rf_ny_d hmp (by omega)] at h1 h0
          exact nm_e (ih (by omega) h1 h0)
        · have c2 : (nI q).toNatClampNeg = q := nI_clamp (by omega)
          refine ⟨vp_in_nI (by omega) (by omega), nm_e ⟨vp_in_nI (by omega) (by omega), nm_r (by rw [c2, rf_c_p (by omega) (by omega)]) ?_⟩⟩
          rw [nI_1 q, nI_1 p]
          have g := h1 _ (rf_ny_u hmp c)
          exact ry_pairUp hn hm hc (rf_Ws hW hmp) (by omega) (by omega) (fun r => ry_fill hn hm hc (rf_pu_W (rf_Ws hW hmp)) (by omega) g)
  exact nm_r (rf_sm1 n) ⟨_, key n (Nat.le_refl n) h1 h0⟩
theorem ry_search_loop {post : SY → Prop} (hn : n ≤ 14) (hm : mm ≤ 4) (hc : ∀ i j, i < j → j < n → (cp i j ↔ rf_cp mm ba bl i j)) :
    ∀ (l : List rf_M) (m : rf_M) (acc : Int32 × rf_M) (st : Nat) (be : Nat → Int32), rf_go (rf_ny n (rf_ok n cp) n) (rf_ny n (rf_ok n cp) n m) l none → (∀ x, x ∈ m :: l → rf_W n x) →
    st + l.length < 20000 → (acc.1 = 1000000 ∨ ∃ tb, be = rf_c (-1) tb acc.2) →
    (∀ m' be', (((m :: l).foldl (rf_fy fun m => rf_EN ba te m n) acc).1 = 1000000 ∨ ∃ tb, be' = rf_c (-1) tb ((m :: l).foldl (rf_fy fun m => rf_EN ba te m n) acc).2) → post (((m :: l).foldl (rf_fy fun m => rf_EN ba te m n) acc).1, nI mm, nI n, ba, bl, te, tr, rf_c (-1) t m', be')) →
    wY_search_14 post (l.length + 2) 1 (nI st) acc.1 (nI mm) (nI n) ba bl te tr (rf_c (-1) t m) be := by
  intro l
  induction l with
  | nil =>
    intro m acc st be hgo hWs hst hco h
    have hW := hWs m (List.mem_cons_self ..)
    have hno : rf_ny n (rf_ok n cp) n m = none := hgo
    have step : ∀ (le' : Int32) (be' : Nat → Int32), ((rf_fy (fun m => rf_EN ba te m n) acc m).1 = 1000000 ∨ ∃ tb, be' = rf_c (-1) tb (rf_fy (fun m => rf_EN ba te m n) acc m).2) → le' = (rf_fy (fun m => rf_EN ba te m n) acc m).1 → wY_search_73 post (wY_search_14 post 1) (nI st) le' (nI mm) (nI n) ba bl te tr (rf_c (-1) t m) be' := by
      intro le' be' e1 e2
      subst e2
      refine ry_step hn hm hc hW (fun m' z => by rw [hno] at z; cases z) (fun _ => nm_r (nI_1 st) ?_)
      exact pk_le 20000 (st + 1) (fun _ => h m be' e1) (fun _ => br_t rfl (h m be' e1)) (by decide)
    refine br_f (nI_ge (b := 20000) (by omega) (by decide)) (br_f (by decide) (ry_energy hn hW ?_))
    by_cases c : rf_EN ba te m n < acc.1
    · have e : rf_fy (fun m => rf_EN ba te m n) acc m = (rf_EN ba te m n, m) := if_pos c
      refine br_f (Int32.not_le.mpr c) ?_
      have key : ∀ d i, i + d = 14 → wY_search_46 post (wY_search_14 post 1) (nI st) (rf_EN ba te m n) (nI mm) (nI n) (d + 1) (nI i) ba bl te tr (rf_c (-1) t m) (rf_cpy (rf_c (-1) t m) be i) := by
        intro d
        induction d with
        | zero =>
          intro i hi
          have e14 : i = 14 := by omega
          subst e14
          refine br_t (by decide) ?_
          exact step _ _ (Or.inr ⟨be, by rw [rf_cpy_e, e]⟩) (by rw [e])
        | succ d ih =>
          intro i hi
          have ci : (nI i).toNatClampNeg = i := nI_clamp (by omega)
          have vi : vp_in (nI i) 14 := vp_in_nI (by omega) (by omega)
          refine br_f (nI_ge (b := 14) (by omega) (by decide)) ⟨vi, vi, nm_r (by rw [ci, rf_cpy_s]) (nm_r (nI_1 i) (ih (i + 1) (by omega)))⟩
      refine ⟨15, ?_⟩
      have g := key 14 0 rfl
      rw [rf_cpy_0] at g
      exact g
    · have e : rf_fy (fun m => rf_EN ba te m n) acc m = acc := if_neg c
      exact br_t (Int32.not_lt.mp c) (step _ _ (by rw [e]; exact hco) (by rw [e]))
  | cons m2 l ih =>
    intro m acc st be hgo hWs hst hco h
    have hW := hWs m (List.mem_cons_self ..)
    have hlen : (m2 :: l).length = l.length + 1 := rfl
    obtain ⟨hno, hgo'⟩ := hgo
    have step : ∀ (le' : Int32) (be' : Nat → Int32), ((rf_fy (fun m => rf_EN ba te m n) acc m).1 = 1000000 ∨ ∃ tb, be' = rf_c (-1) tb (rf_fy (fun m => rf_EN ba te m n) acc m).2) → le' = (rf_fy (fun m => rf_EN ba te m n) acc m).1 → wY_search_73 post (wY_search_14 post (l.length + 2)) (nI st) le' (nI mm) (nI n) ba bl te tr (rf_c (-1) t m) be' := by
      intro le' be' e1 e2
      subst e2
      refine ry_step hn hm hc hW (fun m' z => ?_) (fun z => by rw [hno] at z; cases z)
      rw [hno] at z
      have z' := Option.some.inj z
      subst z'
      exact nm_r (nI_1 st) (ih m2 (rf_fy (fun m => rf_EN ba te m n) acc m) (st + 1) be' hgo' (fun x hx => hWs x (List.mem_cons_of_mem _ hx)) (by omega) e1 h)
    refine br_f (nI_ge (b := 20000) (by omega) (by decide)) (br_f (by decide) (ry_energy hn hW ?_))
    by_cases c : rf_EN ba te m n < acc.1
    · have e : rf_fy (fun m => rf_EN ba te m n) acc m = (rf_EN ba te m n, m) := if_pos c
      refine br_f (Int32.not_le.mpr c) ?_
      have key : ∀ d i, i + d = 14 → wY_search_46 post (wY_search_14 post (l.length + 2)) (nI st) (rf_EN ba te m n) (nI mm) (nI n) (d + 1) (nI i) ba bl te tr (rf_c (-1) t m) (rf_cpy (rf_c (-1) t m) be i) := by
        intro d
        induction d with
        | zero =>
          intro i hi
          have e14 : i = 14 := by omega
          subst e14
          refine br_t (by decide) ?_
          exact step _ _ (Or.inr ⟨be, by rw [rf_cpy_e, e]⟩) (by rw [e])
        | succ d ih =>
          intro i hi
          have ci : (nI i).toNatClampNeg = i := nI_clamp (by omega)
          have vi : vp_in (nI i) 14 := vp_in_nI (by omega) (by omega)
          refine br_f (nI_ge (b := 14) (by omega) (by decide)) ⟨vi, vi, nm_r (by rw [ci, rf_cpy_s]) (nm_r (nI_1 i) (ih (i + 1) (by omega)))⟩
      refine ⟨15, ?_⟩
      have g := key 14 0 rfl
      rw [rf_cpy_0] at g
      exact g
    · have e : rf_fy (fun m => rf_EN ba te m n) acc m = acc := if_neg c
      exact br_t (Int32.not_lt.mp c) (step _ _ (by rw [e]; exact hco) (by rw [e]))
/-- Y's list: the reverse of X's -/
theorem rf_rev {n : Nat} {cp : Nat → Nat → Prop} : ∃ m l, (rf_L n cp).reverse = m :: l ∧ m = rf_fl n (rf_ok n cp) n 0 rf_0 ∧ rf_go (rf_ny n (rf_ok n cp) n) (rf_ny n (rf_ok n cp) n m) l none ∧ (∀ x, x ∈ m :: l → rf_W n x) ∧ l.length + 1 = (rf_L n cp).length := by
  have hy := rf_L_y (n := n) (cp := cp)
  have hW := rf_L_W (n := n) (cp := cp)
  have hl : (rf_L n cp).reverse.length = (rf_L n cp).length := List.length_reverse
  cases e : (rf_L n cp).reverse with
  | nil =>
    rw [e] at hy
    have hy' : some (rf_fl n (rf_ok n cp) n 0 rf_0) = none := hy
    cases hy'
  | cons m l =>
    rw [e] at hy hl
    refine ⟨m, l, rfl, (Option.some.inj hy.1).symm, hy.2, fun x hx => hW x ?_, hl⟩
    rw [← e] at hx
    exact List.mem_reverse.mp hx
theorem ry_search {post : SY → Prop} (hn : n ≤ 14) (hm : mm ≤ 4) (hm2 : 2 ≤ mm) (hc : ∀ i j, i < j → j < n → (cp i j ↔ rf_cp mm ba bl i j))
    (h : ∀ w tb, post (((rf_L n cp).reverse.foldl (rf_fy fun m => rf_EN ba te m n) (1000000, rf_0)).1, nI mm, nI n, ba, bl, te, tr, w, rf_c (-1) tb ((rf_L n cp).reverse.foldl (rf_fy fun m => rf_EN ba te m n) (1000000, rf_0)).2)) :
    wpY_search post (ls, nI mm, nI n, ba, bl, te, tr, ma, be) := by
  unfold wpY_search
  refine ry_first hn hm hc ?_
  have hlen := rf_L_len (cp := cp) hn (fun p q h1 h2 h3 => by have := ((hc p q h1 h2).mp h3).1; omega)
  obtain ⟨l0, hl0⟩ := rf_L_h (n := n) (cp := cp)
  have hle : ((rf_L n cp).reverse.foldl (rf_fy fun m => rf_EN ba te m n) (1000000, rf_0)).1 ≤ 0 := by
    rw [hl0]; exact rf_best_0 (rf_EN_0 ba te n)
  obtain ⟨m, l, e, em, hgo, hWs, hll⟩ := rf_rev (n := n) (cp := cp)
  rw [← em]
  rw [e] at h hle
  refine ⟨l.length + 2, ?_⟩
  refine ry_search_loop hn hm hc l m (1000000, rf_0) 0 be hgo hWs (by omega) (Or.inl rfl) (fun m' be' hb => ?_)
  rcases hb with hb | ⟨tb, hb⟩
  · rw [hb] at hle; exact absurd hle (by decide)
  · rw [hb]; exact h _ tb
theorem ry_count_loop {post : Int32 → SY → Prop} {wt x y : Int32} {P : rf_M → Prop} (hn : n ≤ 14) (hm : mm ≤ 4) (hc : ∀ i j, i < j → j < n → (cp i j ↔ rf_cp mm ba bl i j))
    (hx : ¬ x < 0 → vp_in x 14) (hP : ∀ m, rf_W n m → (P m ↔ (x < 0 ∨ rf_c (-1) t m x.toNatClampNeg = y) ∧ rf_EN ba te m n = wt)) :
    ∀ (l : List rf_M) (m : rf_M) (st ct : Nat), rf_go (rf_ny n (rf_ok n cp) n) (rf_ny n (rf_ok n cp) n m) l none → (∀ x, x ∈ m :: l → rf_W n x) →
    st + l.length < 20000 →
    (∀ m', post (nI (ct + rf_k P (m :: l))) (ls, nI mm, nI n, ba, bl, te, tr, rf_c (-1) t m', be)) →
    wY_countOf_13 post wt x y (l.length + 2) (nI ct) 1 (nI st) ls (nI mm) (nI n) ba bl te tr (rf_c (-1) t m) be := by
  intro l
  induction l with
  | nil =>
    intro m st ct hgo hWs hst h
    have hW := hWs m (List.mem_cons_self ..)
    have hno : rf_ny n (rf_ok n cp) n m = none := hgo
    have step : ∀ c' : Nat, c' = ct + rf_k P [m] → wY_countOf_51 post (wY_countOf_13 post wt x y 1) wt x y (nI c') (nI st) ls (nI mm) (nI n) ba bl te tr (rf_c (-1) t m) be := by
      intro c' e
      subst e
      refine ry_step hn hm hc hW (fun m' z => by rw [hno] at z; cases z) (fun _ => nm_r (nI_1 st) ?_)
      exact pk_le 20000 (st + 1) (fun _ => h m) (fun _ => br_t rfl (h m)) (by decide)
    have st40 : (x < 0 ∨ rf_c (-1) t m x.toNatClampNeg = y) → wY_countOf_40 post (wY_countOf_13 post wt x y 1) wt x y (nI ct) (nI st) ls (nI mm) (nI n) ba bl te tr (rf_c (-1) t m) be := by
      intro hxy
      refine ry_energy hn hW (br_c (fun c => nm_r (nI_1 ct) (step (ct + 1) ?_)) (fun c => step ct ?_))
      · rw [rf_k_t ((hP m hW).mpr ⟨hxy, c⟩)]; rfl
      · rw [rf_k_f (fun z => c ((hP m hW).mp z).2)]; rfl
    refine br_f (nI_ge (b := 20000) (by omega) (by decide)) (br_f (by decide) (br_c (fun c => st40 (Or.inl c)) (fun c => ⟨hx c, br_c (fun c2 => st40 (Or.inr c2)) (fun c2 => step ct ?_)⟩)))
    rw [rf_k_f (fun z => ((hP m hW).mp z).1.elim c c2)]; rfl
  | cons m2 l ih =>
    intro m st ct hgo hWs hst h
    have hW := hWs m (List.mem_cons_self ..)
    have hlen : (m2 :: l).length = l.length + 1 := rfl
    obtain ⟨hno, hgo'⟩ := hgo
    have step : ∀ c' : Nat, c' + rf_k P (m2 :: l) = ct + rf_k P (m :: m2 :: l) → wY_countOf_51 post (wY_countOf_13 post wt x y (l.length + 2)) wt x y (nI c') (nI st) ls (nI mm) (nI n) ba bl te tr (rf_c (-1) t m) be := by
      intro c' e
      refine ry_step hn hm hc hW (fun m' z => ?_) (fun z => by rw [hno] at z; cases z)
      rw [hno] at z
      have z' := Option.some.inj z
      subst z'
      refine nm_r (nI_1 st) (ih m2 (st + 1) c' hgo' (fun x hx => hWs x (List.mem_cons_of_mem _ hx)) (by omega) ?_)
      intro m'
      rw [e]; exact h m'
    have st40 : (x < 0 ∨ rf_c (-1) t m x.toNatClampNeg = y) → wY_countOf_40 post (wY_countOf_13 post wt x y (l.length + 2)) wt x y (nI ct) (nI st) ls (nI mm) (nI n) ba bl te tr (rf_c (-1) t m) be := by
      intro hxy
      refine ry_energy hn hW (br_c (fun c => nm_r (nI_1 ct) (step (ct + 1) ?_)) (fun c => step ct ?_))
      · rw [rf_k_t (m := m) ((hP m hW).mpr ⟨hxy, c⟩)]; omega
      · rw [rf_k_f (m := m) (fun z => c ((hP m hW).mp z).2)]
    refine br_f (nI_ge (b := 20000) (by omega) (by decide)) (br_f (by decide) (br_c (fun c => st40 (Or.inl c)) (fun c => ⟨hx c, br_c (fun c2 => st40 (Or.inr c2)) (fun c2 => step ct ?_)⟩)))
    rw [rf_k_f (m := m) (fun z => ((hP m hW).mp z).1.elim c c2)]
theorem ry_count {post : Int32 → SY → Prop} {wt : Int32} (hn : n ≤ 14) (hm : mm ≤ 4) (hm2 : 2 ≤ mm) (hc : ∀ i j, i < j → j < n → (cp i j ↔ rf_cp mm ba bl i j))
    (h : ∀ w, post (nI (rf_k (fun m => rf_EN ba te m n = wt) (rf_L n cp))) (ls, nI mm, nI n, ba, bl, te, tr, w, be)) :
    wpY_countOf post (ls, nI mm, nI n, ba, bl, te, tr, ma, be) wt (-1) (-1) := by
  unfold wpY_countOf
  refine ry_first hn hm hc ?_
  have hlen := rf_L_len (cp := cp) hn (fun p q h1 h2 h3 => by have := ((hc p q h1 h2).mp h3).1; omega)
  obtain ⟨m, l, e, em, hgo, hWs, hll⟩ := rf_rev (n := n) (cp := cp)
  rw [← em]
  rw [← rf_k_rev, e] at h
  refine ⟨l.length + 2, ?_⟩
  exact ry_count_loop (P := fun m => rf_EN ba te m n = wt) hn hm hc (fun z => absurd (by decide) z) (fun m _ => ⟨fun z => ⟨Or.inl (by decide), z⟩, fun z => z.2⟩) l m 0 0 hgo hWs (by omega) (fun m' => by rw [Nat.zero_add]; exact h _)
theorem ry_pair {post : Int32 → SY → Prop} {wt : Int32} {i j : Nat} (hn : n ≤ 14) (hm : mm ≤ 4) (hm2 : 2 ≤ mm) (hi : i < 14) (hj : j < 14) (hc : ∀ i j, i < j → j < n → (cp i j ↔ rf_cp mm ba bl i j))
    (h : ∀ w, post (nI (rf_k (fun m => m i = some j ∧ rf_EN ba te m n = wt) (rf_L n cp))) (ls, nI mm, nI n, ba, bl, te, tr, w, be)) :
    wpY_countOf post (ls, nI mm, nI n, ba, bl, te, tr, ma, be) wt (nI i) (nI j) := by
  unfold wpY_countOf
  refine ry_first hn hm hc ?_
  have hlen := rf_L_len (cp := cp) hn (fun p q h1 h2 h3 => by have := ((hc p q h1 h2).mp h3).1; omega)
  obtain ⟨m, l, e, em, hgo, hWs, hll⟩ := rf_rev (n := n) (cp := cp)
  rw [← em]
  rw [← rf_k_rev, e] at h
  refine ⟨l.length + 2, ?_⟩
  have ci : (nI i).toNatClampNeg = i := nI_clamp (by omega)
  have rd : ∀ m, rf_W n m → (rf_c (-1) ma m i = nI j ↔ m i = some j) := by
    intro m hW
    cases e : m i with
    | none => rw [rf_c_n hi e]; exact ⟨fun z => absurd z.symm (rf_zne rf_z1 (by omega)), fun z => by cases z⟩
    | some q =>
      have := (hW.1 i q e).2.1
      rw [rf_c_s hi e, nI_eq (by omega) (by omega)]
      exact ⟨fun z => by rw [z], fun z => Option.some.inj z⟩
  exact ry_count_loop (P := fun m => m i = some j ∧ rf_EN ba te m n = wt) hn hm hc (fun _ => vp_in_nI hi (by omega))
    (fun m hW => ⟨fun z => ⟨Or.inr (by rw [ci]; exact (rd m hW).mpr z.1), z.2⟩, fun z => ⟨z.1.elim (fun y => absurd y (nI_pos (by omega))) (fun y => by rw [ci] at y; exact (rd m hW).mp y), z.2⟩⟩)
    l m 0 0 hgo hWs (by omega) (fun m' => by rw [Nat.zero_add]; exact h _)
theorem ry_structs_loop {post : Int32 → SY → Prop} (hn : n ≤ 14) (hm : mm ≤ 4) (hc : ∀ i j, i < j → j < n → (cp i j ↔ rf_cp mm ba bl i j)) :
    ∀ (l : List rf_M) (m : rf_M) (st ct : Nat), rf_go (rf_ny n (rf_ok n cp) n) (rf_ny n (rf_ok n cp) n m) l none → (∀ x, x ∈ m :: l → rf_W n x) →
    st + l.length < 20000 →
    (∀ m', post (nI (ct + l.length + 1)) (ls, nI mm, nI n, ba, bl, te, tr, rf_c (-1) t m', be)) →
    wY_structures_10 post (l.length + 2) (nI ct) 1 (nI st) ls (nI mm) (nI n) ba bl te tr (rf_c (-1) t m) be := by
  intro l
  induction l with
  | nil =>
    intro m st ct hgo hWs hst h
    have hW := hWs m (List.mem_cons_self ..)
    have hno : rf_ny n (rf_ok n cp) n m = none := hgo
    refine br_f (nI_ge (b := 20000) (by omega) (by decide)) (br_f (by decide) (nm_r (nI_1 ct) ?_))
    refine ry_step hn hm hc hW (fun m' z => by rw [hno] at z; cases z) (fun _ => nm_r (nI_1 st) ?_)
    exact pk_le 20000 (st + 1) (fun _ => h m) (fun _ => br_t rfl (h m)) (by decide)
  | cons m2 l ih =>
    intro m st ct hgo hWs hst h
    have hW := hWs m (List.mem_cons_self ..)
    have hlen : (m2 :: l).length = l.length + 1 := rfl
    obtain ⟨hno, hgo'⟩ := hgo
    refine br_f (nI_ge (b := 20000) (by omega) (by decide)) (br_f (by decide) (nm_r (nI_1 ct) ?_))
    refine ry_step hn hm hc hW (fun m' z => ?_) (fun z => by rw [hno] at z; cases z)
    rw [hno] at z
    have z' := Option.some.inj z
    subst z'
    refine nm_r (nI_1 st) (ih m2 (st + 1) (ct + 1) hgo' (fun x hx => hWs x (List.mem_cons_of_mem _ hx)) (by omega) ?_)
    intro m'
    have g := h m'
    rw [hlen, show ct + (l.length + 1) + 1 = ct + 1 + l.length + 1 from by omega] at g
    exact g
theorem ry_structs {post : Int32 → SY → Prop} (hn : n ≤ 14) (hm : mm ≤ 4) (hm2 : 2 ≤ mm) (hc : ∀ i j, i < j → j < n → (cp i j ↔ rf_cp mm ba bl i j))
    (h : ∀ w, post (nI (rf_L n cp).length) (ls, nI mm, nI n, ba, bl, te, tr, w, be)) :
    wpY_structures post (ls, nI mm, nI n, ba, bl, te, tr, ma, be) := by
  unfold wpY_structures
  refine ry_first hn hm hc ?_
  have hlen := rf_L_len (cp := cp) hn (fun p q h1 h2 h3 => by have := ((hc p q h1 h2).mp h3).1; omega)
  obtain ⟨m, l, e, em, hgo, hWs, hll⟩ := rf_rev (n := n) (cp := cp)
  rw [← em]
  rw [← hll] at h
  refine ⟨l.length + 2, ?_⟩
  exact ry_structs_loop hn hm hc l m 0 0 hgo hWs (by omega) (fun m' => by rw [Nat.zero_add]; exact h _)
end
end
section
/-! the trial on both sides; the two walks' answers are one -/
def rf_del (m : rf_M) (p : Nat) : rf_M := (m p).elim m (fun q => rf_sep m p q)
theorem rf_del_n {m : rf_M} {p : Nat} (h : m p = none) : rf_del m p = m := by unfold rf_del; rw [h]; rfl
theorem rf_del_s {m : rf_M} {p q : Nat} (h : m p = some q) : rf_del m p = rf_sep m p q := by unfold rf_del; rw [h]; rfl
theorem rf_del_p {m : rf_M} {p : Nat} : rf_del m p p = none := by
  cases h : m p with
  | none => rw [rf_del_n h, h]
  | some q => rw [rf_del_s h, rf_sp]
theorem rf_del_W {n : Nat} {m : rf_M} {p : Nat} (hW : rf_W n m) : rf_W n (rf_del m p) := by
  cases h : m p with
  | none => rw [rf_del_n h]; exact hW
  | some q => rw [rf_del_s h]; exact rf_Ws hW h
theorem rf_W_up {n : Nat} {m : rf_M} (hW : rf_W n m) : rf_W (n + 1) m :=
  ⟨fun i q h => by
    obtain ⟨a1, a2, a3, a4⟩ := hW.1 i q h
    exact ⟨by omega, by omega, a3, a4⟩, hW.2⟩
theorem rf_W_dn {n : Nat} {m : rf_M} (hW : rf_W (n + 1) m) (h : m n = none) : rf_W n m :=
  ⟨fun i q hi => by
    obtain ⟨a1, a2, a3, a4⟩ := hW.1 i q hi
    have b1 : i ≠ n := fun e => by rw [e, h] at hi; cases hi
    have b2 : q ≠ n := fun e => by rw [e, h] at a4; cases a4
    exact ⟨by omega, by omega, a3, a4⟩, hW.2⟩
theorem rf_W_n {n : Nat} {m : rf_M} (hW : rf_W n m) : m n = none := by
  cases h : m n with
  | none => rfl
  | some q => have := (hW.1 n q h).1; omega
def rf_pr (m : rf_M) (i : Nat) : Prop := ∃ j, m i = some j ∧ i < j
section
variable {mn sz ls tl : Int32} {ba bl te wa be t : Nat → Int32} {n : Nat} {m : rf_M}
theorem rx_del {post : SX → Prop} {p : Nat} (hn : n ≤ 14) (hp : p < n) (hW : rf_W n m) (h : post (mn, sz, ls, tl, ba, bl, te, rf_c (-3) t (rf_del m p), wa, be)) : wpX_separate__trial post (mn, sz, ls, tl, ba, bl, te, rf_c (-3) t m, wa, be) (nI p) :=
  rx_sep_trial (by omega) (fun q z => by have := (hW.1 p q z).2.1; omega) (fun z => by rw [rf_del_n z] at h; exact h) (fun q z => by rw [rf_del_s z] at h; exact h)
theorem rx_pairs {post : Int32 → Prop} (hn : n ≤ 14) (hW : rf_W n m) (h : post (nI (rf_ct (rf_pr m) n))) : wpX_countPairs__trial post (mn, nI n, ls, tl, ba, bl, te, rf_c (-3) t m, wa, be) := by
  unfold wpX_countPairs__trial
  have key : ∀ d i, i + d = n → wX_countPairs__trial_4 post mn (nI n) ls tl ba bl te (rf_c (-3) t m) wa be (d + 1) (nI (rf_ct (rf_pr m) i)) (nI i) := by
    intro d
    induction d with
    | zero =>
      intro i hi
      have e : i = n := by omega
      subst e
      exact br_t (nI_le (Nat.le_refl _) (by omega)) h
    | succ d ih =>
      intro i hi
      have ci : (nI i).toNatClampNeg = i := nI_clamp (by omega)
      have g := ih (i + 1) (by omega)
      refine br_f (nI_ge (by omega) (by omega)) ⟨vp_in_nI (by omega) (by omega), ?_⟩
      rw [ci]
      cases hm : m i with
      | none =>
        rw [rf_ct_f (fun ⟨j, z, _⟩ => by rw [hm] at z; cases z)] at g
        rw [rf_c_n (by omega) hm]
        exact br_t (rf_zle rf_z3 (by omega)) (nm_r (nI_1 i) g)
      | some j =>
        have hj := (hW.1 i j hm).2.1
        rw [rf_c_s (by omega) hm]
        refine pk_le j i (fun c => ?_) (fun c => ?_)
        · rw [rf_ct_f (fun ⟨j', z, z2⟩ => by rw [hm] at z; cases z; omega)] at g
          exact nm_r (nI_1 i) g
        · rw [rf_ct_t (show rf_pr m i from ⟨j, hm, c⟩)] at g
          exact nm_r (nI_1 _) (nm_r (nI_1 i) g)
  exact ⟨_, key n 0 (by omega)⟩
end
section
variable {mn sz ls : Int32} {ba bl te ma be t : Nat → Int32} {n : Nat} {m : rf_M}
theorem ry_del {post : SY → Prop} {p : Nat} (hn : n ≤ 14) (hp : p < n) (hW : rf_W n m) (h : post (ls, mn, sz, ba, bl, te, rf_c (-1) t (rf_del m p), ma, be)) : wpY_dropTrialPairOf post (ls, mn, sz, ba, bl, te, rf_c (-1) t m, ma, be) (nI p) := by
  have cp : (nI p).toNatClampNeg = p := nI_clamp (by omega)
  have vp : vp_in (nI p) 14 := vp_in_nI (by omega) (by omega)
  unfold wpY_dropTrialPairOf
  rw [cp]
  cases hm : m p with
  | none =>
    rw [rf_del_n hm] at h
    refine ⟨vp, br_t (by rw [rf_c_n (by omega) hm]; decide) ⟨vp, nm_r (rf_c_u (by omega) hm) h⟩⟩
  | some q =>
    have hq := (hW.1 p q hm).2.1
    have cq : (nI q).toNatClampNeg = q := nI_clamp (by omega)
    rw [rf_del_s hm] at h
    have e := rf_c_s (z := -1) (t := t) (m := m) (i := p) (q := q) (by omega) hm
    refine ⟨vp, br_f (by rw [e]; exact nI_pos (by omega)) ⟨vp, ?_⟩⟩
    rw [e, cq]
    exact ⟨vp_in_nI (by omega) (by omega), nm_e ⟨vp, nm_r (rf_c_q (by omega) (by omega)) h⟩⟩
theorem ry_tpairs {post : Int32 → Prop} (hn : n ≤ 14) (hW : rf_W n m) (h : post (nI (rf_ct (rf_pr m) n))) : wpY_trialPairs post (ls, mn, nI n, ba, bl, te, rf_c (-1) t m, ma, be) := by
  unfold wpY_trialPairs
  have key : ∀ d i, i + d = n → wY_trialPairs_4 post ls mn (nI n) ba bl te (rf_c (-1) t m) ma be (d + 1) (nI (rf_ct (rf_pr m) i)) (nI i) := by
    intro d
    induction d with
    | zero =>
      intro i hi
      have e : i = n := by omega
      subst e
      exact br_t (nI_le (Nat.le_refl _) (by omega)) h
    | succ d ih =>
      intro i hi
      have ci : (nI i).toNatClampNeg = i := nI_clamp (by omega)
      have g := ih (i + 1) (by omega)
      refine br_f (nI_ge (by omega) (by omega)) ⟨vp_in_nI (by omega) (by omega), ?_⟩
      rw [ci]
      cases hm : m i with
      | none =>
        rw [rf_ct_f (fun ⟨j, z, _⟩ => by rw [hm] at z; cases z)] at g
        rw [rf_c_n (by omega) hm]
        exact br_t (rf_zle rf_z1 (by omega)) (nm_r (nI_1 i) g)
      | some j =>
        have hj := (hW.1 i j hm).2.1
        rw [rf_c_s (by omega) hm]
        refine pk_le j i (fun c => ?_) (fun c => ?_)
        · rw [rf_ct_f (fun ⟨j', z, z2⟩ => by rw [hm] at z; cases z; omega)] at g
          exact nm_r (nI_1 i) g
        · rw [rf_ct_t (show rf_pr m i from ⟨j, hm, c⟩)] at g
          exact nm_r (nI_1 _) (nm_r (nI_1 i) g)
  exact ⟨_, key n 0 (by omega)⟩
theorem ry_take {post : SY → Prop} (h : post (ls, mn, sz, ba, bl, te, rf_c (-1) t m, rf_c (-1) ma m, be)) : wpY_takeTrial post (ls, mn, sz, ba, bl, te, rf_c (-1) t m, ma, be) := by
  unfold wpY_takeTrial
  have key : ∀ d i, i + d = 14 → wY_takeTrial_2 post ls mn sz (d + 1) (nI i) ba bl te (rf_c (-1) t m) (rf_cpy (rf_c (-1) t m) ma i) be := by
    intro d
    induction d with
    | zero =>
      intro i hi
      have e : i = 14 := by omega
      subst e
      refine br_t (by decide) ?_
      rw [rf_cpy_e]; exact h
    | succ d ih =>
      intro i hi
      have ci : (nI i).toNatClampNeg = i := nI_clamp (by omega)
      have vi : vp_in (nI i) 14 := vp_in_nI (by omega) (by omega)
      refine br_f (nI_ge (b := 14) (by omega) (by decide)) ⟨vi, vi, nm_r (by rw [ci, rf_cpy_s]) (nm_r (nI_1 i) (ih (i + 1) (by omega)))⟩
  refine ⟨15, ?_⟩
  have g := key 14 0 rfl
  rw [rf_cpy_0] at g
  exact g
theorem ry_clear {post : Int32 → SY → Prop} {r : Int32} {w : Nat → Int32} (h : post r (ls, mn, sz, ba, bl, te, rf_c (-1) w rf_0, ma, be)) : ∃ n7, wY_trialClear_7 post r ls mn sz n7 0 ba bl te w ma be := by
  have key : ∀ d i, i + d = 14 → wY_trialClear_7 post r ls mn sz (d + 1) (nI i) ba bl te (rf_ini (-1) w i) ma be := by
    intro d
    induction d with
    | zero =>
      intro i hi
      have e : i = 14 := by omega
      subst e
      refine br_t (by decide) ?_
      rw [rf_ini_e]; exact h
    | succ d ih =>
      intro i hi
      have ci : (nI i).toNatClampNeg = i := nI_clamp (by omega)
      have vi : vp_in (nI i) 14 := vp_in_nI (by omega) (by omega)
      refine br_f (nI_ge (b := 14) (by omega) (by decide)) ⟨vi, nm_r (by rw [ci, rf_ini_s]) (nm_r (nI_1 i) (ih (i + 1) (by omega)))⟩
  refine ⟨15, ?_⟩
  have g := key 14 0 rfl
  rw [rf_ini_0] at g
  exact g
end
/-- what both walks find -/
noncomputable def rf_res (ba te : Nat → Int32) (n : Nat) (cp : Nat → Nat → Prop) : Int32 × rf_M := (rf_L n cp).foldl (rf_fx fun m => rf_EN ba te m n) (0, rf_0)
theorem rf_res_y {ba te : Nat → Int32} {n : Nat} {cp : Nat → Nat → Prop} : (rf_L n cp).reverse.foldl (rf_fy fun m => rf_EN ba te m n) (1000000, rf_0) = rf_res ba te n cp := by
  unfold rf_res
  obtain ⟨l, hl⟩ := rf_L_h (n := n) (cp := cp)
  rw [hl]
  exact (rf_best (rf_EN_0 ba te n) (by show (0 : Int32) < 1000000; decide)).symm
theorem rf_fx_W {n : Nat} {E : rf_M → Int32} : ∀ (l : List rf_M) (a : Int32 × rf_M), rf_W n a.2 → (∀ x, x ∈ l → rf_W n x) → rf_W n (l.foldl (rf_fx E) a).2
  | [], a, h, _ => h
  | m :: l, a, h, hl => by
    rw [List.foldl_cons]
    refine rf_fx_W l _ ?_ (fun x hx => hl x (List.mem_cons_of_mem _ hx))
    unfold rf_fx
    by_cases c : E m ≤ a.1
    · rw [if_pos c]; exact hl m (List.mem_cons_self ..)
    · rw [if_neg c]; exact h
theorem rf_res_W {ba te : Nat → Int32} {n : Nat} {cp : Nat → Nat → Prop} : rf_W n (rf_res ba te n cp).2 := rf_fx_W _ _ (rf_W0 n) rf_L_W
theorem rf_cp_eq {mm n : Nat} {ba bx bz : Nat → Int32} (h : ∀ i, i < n → bx i = bz i) : ∀ i j, i < j → j < n → (rf_cp mm ba bx i j ↔ rf_cp mm ba bz i j) := by
  intro i j h1 h2
  unfold rf_cp
  rw [h i (by omega), h j h2]
end
section
/-! the relation and what is owed -/
def i_Rel (k : Nat) (u : SX) (v : SY) : Prop :=
  ∃ (mm n : Nat) (ba bx bz te t t' : Nat → Int32) (m : rf_M) (lx tx ly : Int32) (wa bex ma bey : Nat → Int32),
    u = (nI mm, nI n, lx, tx, ba, bx, te, rf_c (-3) t m, wa, bex) ∧ v = (ly, nI mm, nI n, ba, bz, te, rf_c (-1) t' m, ma, bey) ∧
    n ≤ 14 ∧ 2 ≤ mm ∧ mm ≤ 4 ∧ (∀ i, i < n → bx i = bz i) ∧ rf_W n m
theorem rf_rel {k mm n : Nat} {ba bx bz te t t' : Nat → Int32} {m : rf_M} {lx tx ly : Int32} {wa bex ma bey : Nat → Int32} (hn : n ≤ 14) (h2 : 2 ≤ mm) (h4 : mm ≤ 4) (hb : ∀ i, i < n → bx i = bz i) (hW : rf_W n m) :
    i_Rel k (nI mm, nI n, lx, tx, ba, bx, te, rf_c (-3) t m, wa, bex) (ly, nI mm, nI n, ba, bz, te, rf_c (-1) t' m, ma, bey) :=
  ⟨mm, n, ba, bx, bz, te, t, t', m, lx, tx, ly, wa, bex, ma, bey, rfl, rfl, hn, h2, h4, hb, hW⟩
theorem i_up {k : Nat} {u : SX} {v : SY} (h : i_Rel k u v) : i_Rel (k + 3) u v := h
def rf_te : Nat → Int32 := upd (upd (upd (upd (upd (upd (upd (upd (upd (upd (upd (upd (upd (upd (upd (upd (upd (fun _ => 0) 0 (-33)) 1 (-22)) 2 (-15)) 3 (-11)) 4 (-9)) 5 (-5)) 6 38) 7 3) 8 28) 9 4) 10 12) 11 3) 12 5) 13 34) 14 4) 15 0) 16 5
theorem rx_init {post : SX → Prop} {x : Int32} (h : post (x, 0, 0, 0, (fun _ => 0), (fun _ => 0), rf_te, rf_c (-3) (fun _ => 0) rf_0, (fun _ => 0), (fun _ => 0))) : ∃ n85, wX_init_85 post x 0 0 0 n85 0 (fun _ => 0) (fun _ => 0) (fun _ => 0) (fun _ => 0) (fun _ => 0) (fun _ => 0) := by
  have key : ∀ d i, i + d = 14 → wX_init_85 post x 0 0 0 (d + 1) (nI i) (fun _ => 0) (fun _ => 0) (fun _ => 0) (rf_ini (-3) (fun _ => 0) i) (fun _ => 0) (fun _ => 0) := by
    intro d
    induction d with
    | zero =>
      intro i hi
      have e : i = 14 := by omega
      subst e
      refine br_t (by decide) ?_
      rw [rf_ini_e]
      exact nm_e (nm_e (nm_e (nm_e (nm_e (nm_e (nm_e (nm_e (nm_e (nm_e (nm_e (nm_e (nm_e (nm_e (nm_e (nm_e (nm_e h))))))))))))))))
    | succ d ih =>
      intro i hi
      have ci : (nI i).toNatClampNeg = i := nI_clamp (by omega)
      have vi : vp_in (nI i) 14 := vp_in_nI (by omega) (by omega)
      refine br_f (nI_ge (b := 14) (by omega) (by decide)) ⟨vi, nm_r (by rw [ci, rf_ini_s]) (nm_r (nI_1 i) (ih (i + 1) (by omega)))⟩
  refine ⟨15, ?_⟩
  have g := key 14 0 rfl
  rw [rf_ini_0] at g
  exact g
theorem ry_init {post : SY → Prop} {x : Int32} (h : post (0, x, 0, (fun _ => 0), (fun _ => 0), rf_te, rf_c (-1) (fun _ => 0) rf_0, (fun _ => 0), (fun _ => 0))) : wY_init_77 post x 0 0 0 (fun _ => 0) (fun _ => 0) (fun _ => 0) (fun _ => 0) (fun _ => 0) (fun _ => 0) := by
  refine nm_e (nm_e (nm_e (nm_e (nm_e (nm_e (nm_e (nm_e (nm_e (nm_e (nm_e (nm_e (nm_e (nm_e (nm_e (nm_e (nm_e ?_))))))))))))))))
  have key : ∀ d i, i + d = 14 → wY_init_222 post 0 x 0 (d + 1) (nI i) (fun _ => 0) (fun _ => 0) rf_te (rf_ini (-1) (fun _ => 0) i) (fun _ => 0) (fun _ => 0) := by
    intro d
    induction d with
    | zero =>
      intro i hi
      have e : i = 14 := by omega
      subst e
      refine br_t (by decide) ?_
      rw [rf_ini_e]; exact h
    | succ d ih =>
      intro i hi
      have ci : (nI i).toNatClampNeg = i := nI_clamp (by omega)
      have vi : vp_in (nI i) 14 := vp_in_nI (by omega) (by omega)
      refine br_f (nI_ge (b := 14) (by omega) (by decide)) ⟨vi, nm_r (by rw [ci, rf_ini_s]) (nm_r (nI_1 i) (ih (i + 1) (by omega)))⟩
  refine ⟨15, ?_⟩
  have g := key 14 0 rfl
  rw [rf_ini_0] at g
  exact g
theorem rf_rel0 {mm : Nat} (h2 : 2 ≤ mm) (h4 : mm ≤ 4) : i_Rel 1 (nI mm, 0, 0, 0, (fun _ => 0), (fun _ => 0), rf_te, rf_c (-3) (fun _ => 0) rf_0, (fun _ => 0), (fun _ => 0)) (0, nI mm, 0, (fun _ => 0), (fun _ => 0), rf_te, rf_c (-1) (fun _ => 0) rf_0, (fun _ => 0), (fun _ => 0)) :=
  rf_rel (n := 0) (by omega) h2 h4 (fun i hi => by omega) (rf_W0 0)
theorem i_vc0 (k0 : Int32) : wpX_init (fun u => wpY_init (fun v => i_Rel 1 u v) k0) k0 := by
  unfold wpX_init wpY_init
  refine br_c (fun c => br_c (fun d => rx_init ?_) (fun d => rx_init ?_)) (fun c => rx_init ?_)
  · have h0 : ¬ k0 < 0 := fun z => by
      rw [Int32.lt_iff_toInt_lt, show (0 : Int32).toInt = 0 from by decide] at z
      rw [Int32.le_iff_toInt_le, show (2 : Int32).toInt = 2 from by decide] at c
      omega
    obtain ⟨mm, hmm, rfl⟩ := nI_of2 (M := 4) (n := 4) (by decide) h0 d
    have h2 : 2 ≤ mm := (nI_leI (a := 2) (by omega) (by omega)).mp c
    exact br_t c (br_t d (ry_init (rf_rel0 h2 hmm)))
  · exact br_t c (br_f d (ry_init (rf_rel0 (mm := 4) (by omega) (by omega))))
  · exact br_f c (ry_init (rf_rel0 (mm := 2) (by omega) (by omega)))
theorem i_vc_addBase {k : Nat} {u : SX} {v : SY} (I : i_Rel k u v) (hk : k + 3 ≤ 1537) (v1 : Int32) : wpX_addBase (fun r u' => wpY_addBase (fun r' v' => r' = r ∧ i_Rel (k + 3) u' v') v v1) u v1 := by
  obtain ⟨mm, n, ba, bx, bz, te, t, t', m, lx, tx, ly, wa, bex, ma, bey, rfl, rfl, hn, h2, h4, hb, hW⟩ := I
  unfold wpX_addBase wpY_addBase
  have cn : (nI n).toNatClampNeg = n := nI_clamp (by omega)
  refine pk_lt n 14 (fun c => ?_) (fun c => ?_)
  · have vn : vp_in (nI n) 14 := vp_in_nI c (by omega)
    have ne : ¬ nI n = 14 := fun z => by have := (nI_eq (b := 14) (by omega) (by omega)).mp z; omega
    refine br_c (fun d => br_f ne (br_t d ⟨rfl, rf_rel hn h2 h4 hb hW⟩)) (fun d => br_c (fun e => ?_) (fun e => br_f ne (br_f d (br_f e ⟨rfl, rf_rel hn h2 h4 hb hW⟩))))
    refine ⟨vn, nm_e ⟨vn, nm_e (nm_r (nI_1 n) (br_f ne (br_f d (br_t e ⟨vn, nm_e ⟨vn, nm_e ⟨vn, nm_r (e' := rf_c (-1) t' m) (by rw [cn]; exact rf_c_u c (rf_W_n hW)) (nm_r (nI_1 n) ⟨rfl, ?_⟩)⟩⟩⟩))))⟩⟩
    refine rf_rel (by omega) h2 h4 (fun i hi => ?_) (rf_W_up hW)
    rw [cn]
    unfold upd
    by_cases f : i = n
    · rw [if_pos f, if_pos f]
    · rw [if_neg f, if_neg f]; exact hb i (by omega)
  · have e : n = 14 := by omega
    subst e
    exact br_t rfl ⟨rfl, rf_rel hn h2 h4 hb hW⟩
theorem i_vc_dropBase {k : Nat} {u : SX} {v : SY} (I : i_Rel k u v) (hk : k + 3 ≤ 1537) : wpX_dropBase (fun r u' => wpY_dropBase (fun r' v' => r' = r ∧ i_Rel (k + 3) u' v') v) u := by
  obtain ⟨mm, n, ba, bx, bz, te, t, t', m, lx, tx, ly, wa, bex, ma, bey, rfl, rfl, hn, h2, h4, hb, hW⟩ := I
  unfold wpX_dropBase wpY_dropBase
  refine pk_lt 0 n (fun c => ?_) (fun c => ?_)
  · obtain ⟨n, rfl⟩ : ∃ n', n = n' + 1 := ⟨n - 1, by omega⟩
    have cn : (nI n).toNatClampNeg = n := nI_clamp (by omega)
    have vn : vp_in (nI n) 14 := vp_in_nI (by omega) (by omega)
    refine nm_r (nI_pred n) (rx_del hn (by omega) hW ⟨vn, nm_e ⟨vn, br_f (nI_ne0 (by omega) (by omega)) ?_⟩⟩)
    rw [nI_pred n]
    refine ry_del hn (by omega) hW (nm_r (nI_pred n) ⟨vn, rfl, ?_⟩)
    refine rf_rel (by omega) h2 h4 (fun i hi => ?_) (rf_W_dn (rf_del_W hW) rf_del_p)
    rw [cn, pk_un (by omega)]
    exact hb i (by omega)
  · have e : n = 0 := by omega
    subst e
    exact br_t rfl ⟨rfl, rf_rel hn h2 h4 hb hW⟩
theorem i_vc_length {k : Nat} {u : SX} {v : SY} (I : i_Rel k u v) (hk : k + 3 ≤ 1537) : wpX_length (fun r => wpY_length (fun r' => r' = r ∧ i_Rel (k + 3) u v) v) u := by
  obtain ⟨mm, n, ba, bx, bz, te, t, t', m, lx, tx, ly, wa, bex, ma, bey, rfl, rfl, hn, h2, h4, hb, hW⟩ := I
  exact ⟨rfl, rf_rel hn h2 h4 hb hW⟩
theorem i_vc_block {k : Nat} {u : SX} {v : SY} (I : i_Rel k u v) (hk : k + 3 ≤ 1537) (v1 : Int32) (v2 : Int32) : wpX_block (fun r u' => wpY_block (fun r' v' => r' = r ∧ i_Rel (k + 3) u' v') v v1 (lw_bz v2)) u v1 (lw_bz v2) := by
  obtain ⟨mm, n, ba, bx, bz, te, t, t', m, lx, tx, ly, wa, bex, ma, bey, rfl, rfl, hn, h2, h4, hb, hW⟩ := I
  unfold wpX_block wpY_block
  refine rx_isBase hn (fun i hi ex => ?_) (fun hno => br_t rfl ?_)
  · subst ex
    have ci : (nI i).toNatClampNeg = i := nI_clamp (by omega)
    have vi : vp_in (nI i) 14 := vp_in_nI (by omega) (by omega)
    have hb' : ∀ j, j < n → upd bx i (vp_nar .boolean (lw_bz v2)) j = upd bz i (vp_nar .boolean (lw_bz v2)) j := fun j hj => by
      unfold upd
      by_cases f : j = i
      · rw [if_pos f, if_pos f]
      · rw [if_neg f, if_neg f]; exact hb j hj
    refine br_f (by decide) ⟨vi, nm_r (e' := upd bx i (vp_nar .boolean (lw_bz v2))) (by rw [ci]) ?_⟩
    refine br_c (fun c => br_f (nI_pos (by omega)) (br_t (nI_lt hi (by omega)) ⟨vi, nm_r (e' := upd bz i (vp_nar .boolean (lw_bz v2))) (by rw [ci]) (br_t c ⟨rfl, rf_rel hn h2 h4 hb' hW⟩)⟩)) (fun c => ?_)
    refine rx_del hn hi hW (br_f (nI_pos (by omega)) (br_t (nI_lt hi (by omega)) ⟨vi, nm_r (e' := upd bz i (vp_nar .boolean (lw_bz v2))) (by rw [ci]) (br_f c ?_)⟩))
    exact ry_del hn hi hW ⟨rfl, rf_rel hn h2 h4 hb' (rf_del_W hW)⟩
  · refine br_c (fun c => ⟨rfl, rf_rel hn h2 h4 hb hW⟩) (fun c => br_c (fun d => ?_) (fun d => ⟨rfl, rf_rel hn h2 h4 hb hW⟩))
    obtain ⟨i, hi, rfl⟩ := nI_of c
    rw [nI_ltI hi (by omega)] at d
    exact absurd rfl (hno i d)
theorem i_vc_setEnergy {k : Nat} {u : SX} {v : SY} (I : i_Rel k u v) (hk : k + 3 ≤ 1537) (v1 : Int32) (v2 : Int32) : wpX_setEnergy (fun r u' => wpY_setEnergy (fun r' v' => r' = r ∧ i_Rel (k + 3) u' v') v v1 v2) u v1 v2 := by
  obtain ⟨mm, n, ba, bx, bz, te, t, t', m, lx, tx, ly, wa, bex, ma, bey, rfl, rfl, hn, h2, h4, hb, hW⟩ := I
  unfold wpX_setEnergy wpY_setEnergy
  have sw : v1 < 17 ↔ ¬ 16 < v1 := by
    rw [Int32.lt_iff_toInt_lt, Int32.lt_iff_toInt_lt, show (17 : Int32).toInt = 17 from by decide, show (16 : Int32).toInt = 16 from by decide]
    omega
  refine br_c (fun c => br_t c ⟨rfl, rf_rel hn h2 h4 hb hW⟩) (fun c => br_c (fun d => ?_) (fun d => br_f c (br_t (Classical.not_not.mp fun z => d (sw.mpr z)) ⟨rfl, rf_rel hn h2 h4 hb hW⟩)))
  have d' := sw.mp d
  have vi : vp_in v1 17 := by
    obtain ⟨i, hi, rfl⟩ := nI_of c
    exact vp_in_nI ((nI_ltI (b := 17) hi (by omega)).mp d) (by omega)
  refine br_c (fun e => br_f c (br_f d' (br_t e ⟨rfl, rf_rel hn h2 h4 hb hW⟩))) (fun e => br_c (fun f => ?_) (fun f => br_f c (br_f d' (br_f e (br_f f ⟨rfl, rf_rel hn h2 h4 hb hW⟩)))))
  exact ⟨vi, nm_e (br_f c (br_f d' (br_f e (br_t f ⟨vi, nm_e ⟨rfl, rf_rel hn h2 h4 hb hW⟩⟩))))⟩
theorem i_vc_canPair {k : Nat} {u : SX} {v : SY} (I : i_Rel k u v) (hk : k + 3 ≤ 1537) (v1 : Int32) (v2 : Int32) : wpX_canPair (fun r => wpY_canPair (fun r' => r' = r ∧ i_Rel (k + 3) u v) v v1 v2) u v1 v2 := by
  obtain ⟨mm, n, ba, bx, bz, te, t, t', m, lx, tx, ly, wa, bex, ma, bey, rfl, rfl, hn, h2, h4, hb, hW⟩ := I
  have hc := rf_cp_eq (mm := mm) (ba := ba) hb
  refine rx_canPair hn h4 (fun i j e1 e2 h3 h5 h6 => ?_) (fun hno => ?_)
  · exact ry_canPair hn h4 (fun _ _ _ _ _ _ _ => ⟨rfl, rf_rel hn h2 h4 hb hW⟩) (fun z => absurd ((hc i j h3 h5).mp h6) (z i j e1 e2 h3 h5))
  · exact ry_canPair hn h4 (fun i j e1 e2 h3 h5 h6 => absurd ((hc i j h3 h5).mpr h6) (hno i j e1 e2 h3 h5)) (fun _ => ⟨rfl, rf_rel hn h2 h4 hb hW⟩)
theorem i_vc_leastEnergy {k : Nat} {u : SX} {v : SY} (I : i_Rel k u v) (hk : k + 3 ≤ 1537) : wpX_leastEnergy (fun r u' => wpY_leastEnergy (fun r' v' => r' = r ∧ i_Rel (k + 3) u' v') v) u := by
  obtain ⟨mm, n, ba, bx, bz, te, t, t', m, lx, tx, ly, wa, bex, ma, bey, rfl, rfl, hn, h2, h4, hb, hW⟩ := I
  have hc := rf_cp_eq (mm := mm) (ba := ba) hb
  unfold wpX_leastEnergy wpY_leastEnergy
  refine rx_survey hn h4 h2 (fun _ _ _ _ => Iff.rfl) (fun w tb => ry_search hn h4 h2 hc (fun w' tb' => ?_))
  rw [rf_res_y]
  exact ⟨rfl, rf_rel hn h2 h4 hb hW⟩
theorem i_vc_structures {k : Nat} {u : SX} {v : SY} (I : i_Rel k u v) (hk : k + 3 ≤ 1537) : wpX_structures (fun r u' => wpY_structures (fun r' v' => r' = r ∧ i_Rel (k + 3) u' v') v) u := by
  obtain ⟨mm, n, ba, bx, bz, te, t, t', m, lx, tx, ly, wa, bex, ma, bey, rfl, rfl, hn, h2, h4, hb, hW⟩ := I
  have hc := rf_cp_eq (mm := mm) (ba := ba) hb
  unfold wpX_structures
  exact rx_survey hn h4 h2 (fun _ _ _ _ => Iff.rfl) (fun w tb => ry_structs hn h4 h2 hc (fun w' => ⟨rfl, rf_rel hn h2 h4 hb hW⟩))
theorem i_vc_atGap {k : Nat} {u : SX} {v : SY} (I : i_Rel k u v) (hk : k + 3 ≤ 1537) (v1 : Int32) : wpX_atGap (fun r u' => wpY_atGap (fun r' v' => r' = r ∧ i_Rel (k + 3) u' v') v v1) u v1 := by
  obtain ⟨mm, n, ba, bx, bz, te, t, t', m, lx, tx, ly, wa, bex, ma, bey, rfl, rfl, hn, h2, h4, hb, hW⟩ := I
  have hc := rf_cp_eq (mm := mm) (ba := ba) hb
  unfold wpX_atGap wpY_atGap
  refine br_c (fun c => br_t c ⟨rfl, rf_rel hn h2 h4 hb hW⟩) (fun c => br_c (fun d => ?_) (fun d => br_f c (br_f d ⟨rfl, rf_rel hn h2 h4 hb hW⟩)))
  refine rx_survey hn h4 h2 (fun _ _ _ _ => Iff.rfl) (fun w tb => rx_count hn h4 h2 (fun _ _ _ _ => Iff.rfl) (fun w2 => br_f c (br_t d (ry_search hn h4 h2 hc (fun w' tb' => ?_)))))
  rw [rf_res_y]
  exact ry_count hn h4 h2 hc (fun w3 => ⟨rfl, rf_rel hn h2 h4 hb hW⟩)
theorem i_vc_partner {k : Nat} {u : SX} {v : SY} (I : i_Rel k u v) (hk : k + 3 ≤ 1537) (v1 : Int32) : wpX_partner (fun r u' => wpY_partner (fun r' v' => r' = r ∧ i_Rel (k + 3) u' v') v v1) u v1 := by
  obtain ⟨mm, n, ba, bx, bz, te, t, t', m, lx, tx, ly, wa, bex, ma, bey, rfl, rfl, hn, h2, h4, hb, hW⟩ := I
  have hc := rf_cp_eq (mm := mm) (ba := ba) hb
  unfold wpX_partner wpY_partner
  refine rx_isBase hn (fun i hi ex => ?_) (fun hno => br_t rfl ?_)
  · subst ex
    have ci : (nI i).toNatClampNeg = i := nI_clamp (by omega)
    have vi : vp_in (nI i) 14 := vp_in_nI (by omega) (by omega)
    refine br_f (by decide) (rx_survey hn h4 h2 (fun _ _ _ _ => Iff.rfl) (fun w tb => ⟨vi, br_f (nI_pos (by omega)) (br_t (nI_lt hi (by omega)) (ry_search hn h4 h2 hc (fun w' tb' => ⟨vi, ?_⟩)))⟩))
    rw [rf_res_y, ci]
    have hR := rf_res_W (ba := ba) (te := te) (n := n) (cp := rf_cp mm ba bx)
    show (0 ≤ rf_c (-1) tb' (rf_res ba te n (rf_cp mm ba bx)).2 i → vp_in (nI i) 14 ∧ rf_c (-1) tb' (rf_res ba te n (rf_cp mm ba bx)).2 i = rf_c (-3) tb (rf_res ba te n (rf_cp mm ba bx)).2 i ∧ i_Rel (k + 3) _ _) ∧ (¬ 0 ≤ rf_c (-1) tb' (rf_res ba te n (rf_cp mm ba bx)).2 i → (-3) = rf_c (-3) tb (rf_res ba te n (rf_cp mm ba bx)).2 i ∧ i_Rel (k + 3) _ _)
    cases hm : (rf_res ba te n (rf_cp mm ba bx)).2 i with
    | none =>
      rw [rf_c_n (by omega) hm, rf_c_n (by omega) hm]
      exact br_f (by decide) ⟨rfl, rf_rel hn h2 h4 hb hW⟩
    | some q =>
      have hq := (hR.1 i q hm).2.1
      rw [rf_c_s (by omega) hm, rf_c_s (by omega) hm]
      exact br_t (nI_pos' (by omega)) ⟨vi, rfl, rf_rel hn h2 h4 hb hW⟩
  · refine br_c (fun c => ⟨rfl, rf_rel hn h2 h4 hb hW⟩) (fun c => br_c (fun d => ?_) (fun d => ⟨rfl, rf_rel hn h2 h4 hb hW⟩))
    obtain ⟨i, hi, rfl⟩ := nI_of c
    rw [nI_ltI hi (by omega)] at d
    exact absurd rfl (hno i d)
theorem i_vc_needed {k : Nat} {u : SX} {v : SY} (I : i_Rel k u v) (hk : k + 3 ≤ 1537) (v1 : Int32) (v2 : Int32) : wpX_needed (fun r u' => wpY_needed (fun r' v' => r' = r ∧ i_Rel (k + 3) u' v') v v1 v2) u v1 v2 := by
  obtain ⟨mm, n, ba, bx, bz, te, t, t', m, lx, tx, ly, wa, bex, ma, bey, rfl, rfl, hn, h2, h4, hb, hW⟩ := I
  have hc := rf_cp_eq (mm := mm) (ba := ba) hb
  unfold wpX_needed wpY_needed
  refine rx_canPair hn h4 (fun i j e1 e2 h3 h5 h6 => br_f (by decide) ?_) (fun hno => br_t rfl ?_)
  · subst e1 e2
    refine rx_survey hn h4 h2 (fun _ _ _ _ => Iff.rfl) (fun w tb => rx_count hn h4 h2 (fun _ _ _ _ => Iff.rfl) (fun w2 => rx_pair hn h4 h2 (by omega) (by omega) (fun _ _ _ _ => Iff.rfl) (fun w3 => ?_)))
    have no : (∀ i' j', nI i = nI i' → nI j = nI j' → i' < j' → j' < n → ¬ rf_cp mm ba bz i' j') → False := fun z => z i j rfl rfl h3 h5 ((hc i j h3 h5).mp h6)
    refine br_c (fun c => ?_) (fun c => ?_)
    · refine ry_canPair hn h4 (fun _ _ _ _ _ _ _ => br_f (by decide) (ry_search hn h4 h2 hc (fun w' tb' => ?_))) (fun z => absurd z no)
      rw [rf_res_y]
      exact ry_pair hn h4 h2 (by omega) (by omega) hc (fun w4 => ry_count hn h4 h2 hc (fun w5 => br_t c ⟨rfl, rf_rel hn h2 h4 hb hW⟩))
    · refine ry_canPair hn h4 (fun _ _ _ _ _ _ _ => br_f (by decide) (ry_search hn h4 h2 hc (fun w' tb' => ?_))) (fun z => absurd z no)
      rw [rf_res_y]
      exact ry_pair hn h4 h2 (by omega) (by omega) hc (fun w4 => ry_count hn h4 h2 hc (fun w5 => br_f c ⟨rfl, rf_rel hn h2 h4 hb hW⟩))
  · exact ry_canPair hn h4 (fun i j e1 e2 h3 h5 h6 => absurd ((hc i j h3 h5).mpr h6) (hno i j e1 e2 h3 h5)) (fun _ => br_t rfl ⟨rfl, rf_rel hn h2 h4 hb hW⟩)
theorem i_vc_optimaWith {k : Nat} {u : SX} {v : SY} (I : i_Rel k u v) (hk : k + 3 ≤ 1537) (v1 : Int32) (v2 : Int32) : wpX_optimaWith (fun r u' => wpY_optimaWith (fun r' v' => r' = r ∧ i_Rel (k + 3) u' v') v v1 v2) u v1 v2 := by
  obtain ⟨mm, n, ba, bx, bz, te, t, t', m, lx, tx, ly, wa, bex, ma, bey, rfl, rfl, hn, h2, h4, hb, hW⟩ := I
  have hc := rf_cp_eq (mm := mm) (ba := ba) hb
  unfold wpX_optimaWith wpY_optimaWith
  refine rx_canPair hn h4 (fun i j e1 e2 h3 h5 h6 => br_f (by decide) ?_) (fun hno => br_t rfl ?_)
  · subst e1 e2
    refine rx_survey hn h4 h2 (fun _ _ _ _ => Iff.rfl) (fun w tb => rx_pair hn h4 h2 (by omega) (by omega) (fun _ _ _ _ => Iff.rfl) (fun w3 => ?_))
    have no : (∀ i' j', nI i = nI i' → nI j = nI j' → i' < j' → j' < n → ¬ rf_cp mm ba bz i' j') → False := fun z => z i j rfl rfl h3 h5 ((hc i j h3 h5).mp h6)
    refine ry_canPair hn h4 (fun _ _ _ _ _ _ _ => br_f (by decide) (ry_search hn h4 h2 hc (fun w' tb' => ?_))) (fun z => absurd z no)
    rw [rf_res_y]
    exact ry_pair hn h4 h2 (by omega) (by omega) hc (fun w4 => ⟨rfl, rf_rel hn h2 h4 hb hW⟩)
  · exact ry_canPair hn h4 (fun i j e1 e2 h3 h5 h6 => absurd ((hc i j h3 h5).mpr h6) (hno i j e1 e2 h3 h5)) (fun _ => br_t rfl ⟨rfl, rf_rel hn h2 h4 hb hW⟩)
theorem i_vc_trialPair {k : Nat} {u : SX} {v : SY} (I : i_Rel k u v) (hk : k + 3 ≤ 1537) (v1 : Int32) (v2 : Int32) : wpX_trialPair (fun r u' => wpY_trialPair (fun r' v' => r' = r ∧ i_Rel (k + 3) u' v') v v1 v2) u v1 v2 := by
  obtain ⟨mm, n, ba, bx, bz, te, t, t', m, lx, tx, ly, wa, bex, ma, bey, rfl, rfl, hn, h2, h4, hb, hW⟩ := I
  have hc := rf_cp_eq (mm := mm) (ba := ba) hb
  unfold wpX_trialPair wpY_trialPair
  refine rx_canPair hn h4 (fun i j e1 e2 h3 h5 h6 => br_f (by decide) ?_) (fun hno => br_t rfl ?_)
  · subst e1 e2
    have ci : (nI i).toNatClampNeg = i := nI_clamp (by omega)
    have cj : (nI j).toNatClampNeg = j := nI_clamp (by omega)
    have no : (∀ i' j', nI i = nI i' → nI j = nI j' → i' < j' → j' < n → ¬ rf_cp mm ba bz i' j') → False := fun z => z i j rfl rfl h3 h5 ((hc i j h3 h5).mp h6)
    refine rx_fits_trial h3 (by omega) (fun p q z => by have := (hW.1 p q z).2.1; omega) (fun f => br_f (by decide) ?_) (fun f => br_t rfl ?_)
    · have hJ := rf_Wj hW h3 h5 f
      refine rx_join_trial (by omega) (by omega) (rx_pairs hn hJ ?_)
      refine ry_canPair hn h4 (fun _ _ _ _ _ _ _ => br_f (by decide) (ry_take (ry_fits hn h3 h5 hW (fun _ => br_f (by decide) ?_) (fun z => absurd f z)))) (fun z => absurd z no)
      refine ⟨vp_in_nI (by omega) (by omega), nm_e ⟨vp_in_nI (by omega) (by omega), nm_r (e' := rf_c (-1) t' (rf_join m i j)) (by rw [ci, cj]; exact rf_c_j (by omega) (by omega)) ?_⟩⟩
      exact ry_tpairs hn hJ ⟨rfl, rf_rel hn h2 h4 hb hJ⟩
    · exact ry_canPair hn h4 (fun _ _ _ _ _ _ _ => br_f (by decide) (ry_take (ry_fits hn h3 h5 hW (fun z => absurd z f) (fun _ => br_t rfl ⟨rfl, rf_rel hn h2 h4 hb hW⟩)))) (fun z => absurd z no)
  · exact ry_canPair hn h4 (fun i j e1 e2 h3 h5 h6 => absurd ((hc i j h3 h5).mpr h6) (hno i j e1 e2 h3 h5)) (fun _ => br_t rfl ⟨rfl, rf_rel hn h2 h4 hb hW⟩)
theorem i_vc_trialClear {k : Nat} {u : SX} {v : SY} (I : i_Rel k u v) (hk : k + 3 ≤ 1537) : wpX_trialClear (fun r u' => wpY_trialClear (fun r' v' => r' = r ∧ i_Rel (k + 3) u' v') v) u := by
  obtain ⟨mm, n, ba, bx, bz, te, t, t', m, lx, tx, ly, wa, bex, ma, bey, rfl, rfl, hn, h2, h4, hb, hW⟩ := I
  unfold wpX_trialClear wpY_trialClear
  exact rx_pairs hn hW (rx_clear_trial (ry_tpairs hn hW (ry_clear ⟨rfl, rf_rel hn h2 h4 hb (rf_W0 n)⟩)))
theorem i_vc_trialGap {k : Nat} {u : SX} {v : SY} (I : i_Rel k u v) (hk : k + 3 ≤ 1537) : wpX_trialGap (fun r u' => wpY_trialGap (fun r' v' => r' = r ∧ i_Rel (k + 3) u' v') v) u := by
  obtain ⟨mm, n, ba, bx, bz, te, t, t', m, lx, tx, ly, wa, bex, ma, bey, rfl, rfl, hn, h2, h4, hb, hW⟩ := I
  have hc := rf_cp_eq (mm := mm) (ba := ba) hb
  unfold wpX_trialGap wpY_trialGap
  refine rx_survey hn h4 h2 (fun _ _ _ _ => Iff.rfl) (fun w tb => rx_energy_trial hn hW (ry_search hn h4 h2 hc (fun w' tb' => ?_)))
  rw [rf_res_y]
  exact ry_take (ry_energy hn hW ⟨rfl, rf_rel hn h2 h4 hb hW⟩)
end
