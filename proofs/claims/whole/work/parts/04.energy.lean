/-! pure: the energy of a structure -/
noncomputable def rf_ct (P : Nat → Prop) : Nat → Nat
  | 0 => 0
  | p + 1 => if rf_d (P p) = true then rf_ct P p + 1 else rf_ct P p
theorem rf_ct_t {P : Nat → Prop} {p : Nat} (h : P p) : rf_ct P (p + 1) = rf_ct P p + 1 := by
  simp only [rf_ct]; rw [if_pos (rf_dt h)]
theorem rf_ct_f {P : Nat → Prop} {p : Nat} (h : ¬ P p) : rf_ct P (p + 1) = rf_ct P p := by
  simp only [rf_ct]; rw [if_neg (rf_df h)]
theorem rf_ct_0 {P : Nat → Prop} : ∀ p, (∀ k, k < p → ¬ P k) → rf_ct P p = 0
  | 0, _ => rfl
  | p + 1, h => by rw [rf_ct_f (h p (by omega))]; exact rf_ct_0 p (fun k hk => h k (by omega))
theorem rf_ct_le (P : Nat → Prop) : ∀ p, rf_ct P p ≤ p
  | 0 => Nat.le_refl _
  | p + 1 => by
    have := rf_ct_le P p
    by_cases h : P p
    · rw [rf_ct_t h]; omega
    · rw [rf_ct_f h]; omega
noncomputable def rf_sm (P : Nat → Prop) (f : Nat → Int32) : Nat → Int32
  | 0 => 0
  | p + 1 => if rf_d (P p) = true then rf_sm P f p + f p else rf_sm P f p
theorem rf_sm_t {P : Nat → Prop} {f : Nat → Int32} {p : Nat} (h : P p) : rf_sm P f (p + 1) = rf_sm P f p + f p := by
  simp only [rf_sm]; rw [if_pos (rf_dt h)]
theorem rf_sm_f {P : Nat → Prop} {f : Nat → Int32} {p : Nat} (h : ¬ P p) : rf_sm P f (p + 1) = rf_sm P f p := by
  simp only [rf_sm]; rw [if_neg (rf_df h)]
noncomputable def rf_la (P : Nat → Prop) (i : Nat) : Nat → Nat
  | 0 => i
  | p + 1 => if rf_d (P p) = true then p else rf_la P i p
theorem rf_la_t {P : Nat → Prop} {i p : Nat} (h : P p) : rf_la P i (p + 1) = p := by
  simp only [rf_la]; rw [if_pos (rf_dt h)]
theorem rf_la_f {P : Nat → Prop} {i p : Nat} (h : ¬ P p) : rf_la P i (p + 1) = rf_la P i p := by
  simp only [rf_la]; rw [if_neg (rf_df h)]
/-- none counted: nothing summed; one counted: it is the last -/
theorem rf_one {P : Nat → Prop} {f : Nat → Int32} {i : Nat} : ∀ p, (rf_ct P p = 0 → rf_sm P f p = 0 ∧ rf_la P i p = i) ∧ (0 < rf_ct P p → P (rf_la P i p) ∧ rf_la P i p < p) ∧ (rf_ct P p = 1 → rf_sm P f p = f (rf_la P i p))
  | 0 => ⟨fun _ => ⟨rfl, rfl⟩, fun h => absurd h (by simp [rf_ct]), fun h => absurd h (by simp [rf_ct])⟩
  | p + 1 => by
    obtain ⟨h1, h2, h3⟩ := rf_one (P := P) (f := f) (i := i) p
    by_cases h : P p
    · rw [rf_ct_t h, rf_sm_t h, rf_la_t h]
      refine ⟨fun z => by omega, fun _ => ⟨h, by omega⟩, fun z => ?_⟩
      rw [(h1 (by omega)).1, Int32.zero_add]
    · rw [rf_ct_f h, rf_sm_f h, rf_la_f h]
      exact ⟨h1, fun z => ⟨(h2 z).1, by have := (h2 z).2; omega⟩, h3⟩
theorem rf_sm_0 {P : Nat → Prop} {f : Nat → Int32} : ∀ p, (∀ k, k < p → ¬ P k) → rf_sm P f p = 0
  | 0, _ => rfl
  | p + 1, h => by rw [rf_sm_f (h p (by omega))]; exact rf_sm_0 p (fun k hk => h k (by omega))
theorem rf_la_0 {P : Nat → Prop} {i : Nat} : ∀ p, (∀ k, k < p → ¬ P k) → rf_la P i p = i
  | 0, _ => rfl
  | p + 1, h => by rw [rf_la_f (h p (by omega))]; exact rf_la_0 p (fun k hk => h k (by omega))
def rf_st (a : Nat → Int32) (i j : Nat) : Int32 :=
  if (a i = 1 ∧ a j = 2) ∨ (a i = 2 ∧ a j = 1) then 0 else if (a i = 0 ∧ a j = 3) ∨ (a i = 3 ∧ a j = 0) then 1 else if (a i = 2 ∧ a j = 3) ∨ (a i = 3 ∧ a j = 2) then 2 else -1
def rf_en (a e : Nat → Int32) (i j : Nat) : Int32 := if rf_st a i j = 0 then 0 else e 16
def rf_sk (e : Nat → Int32) (s t : Int32) : Int32 :=
  if (if s < t then s else t) = 0 then (if (if s < t then t else s) = 0 then e 0 else if (if s < t then t else s) = 1 then e 1 else e 2)
  else if (if s < t then s else t) = 1 then (if (if s < t then t else s) = 1 then e 3 else e 4) else e 5
def rf_on (a e : Nat → Int32) (i j k l : Nat) : Int32 :=
  if k - i - 1 = 0 ∧ j - l - 1 = 0 then rf_sk e (rf_st a i j) (rf_st a k l)
  else if k - i - 1 = 0 ∨ j - l - 1 = 0 then e 8 + e 9 * nI (k - i - 1 + (j - l - 1)) + (rf_en a e i j + rf_en a e k l)
  else e 10 + e 11 * nI (k - i - 1 + (j - l - 1)) + e 12 * nI (if j - l - 1 < k - i - 1 then k - i - 1 - (j - l - 1) else j - l - 1 - (k - i - 1)) + (rf_en a e i j + rf_en a e k l)
/-- (k, l) directly inside (i, j) -/
def rf_I (m : rf_M) (i j k l : Nat) : Prop := i < k ∧ l < j ∧ ∀ p q, i < p → p < k → m p = some q → ¬ (l < q ∧ q < j)
def rf_C (m : rf_M) (i j k : Nat) : Prop := ∃ l, m k = some l ∧ k < l ∧ rf_I m i j k l
def rf_V (m : rf_M) (i j p : Nat) : Prop := ∃ k l, i < k ∧ k < p ∧ m k = some l ∧ p < l ∧ rf_I m i j k l
def rf_U (m : rf_M) (i j p : Nat) : Prop := i < p ∧ m p = none ∧ ¬ rf_V m i j p
def rf_mt (m : rf_M) (k : Nat) : Nat := (m k).getD 0
theorem rf_mt_s {m : rf_M} {k l : Nat} (h : m k = some l) : rf_mt m k = l := by unfold rf_mt; rw [h]; rfl
noncomputable def rf_LE (a e : Nat → Int32) (m : rf_M) (i j : Nat) : Int32 :=
  if rf_ct (rf_C m i j) j = 0 then e 6 + e 7 * nI (rf_ct (rf_U m i j) j) + rf_en a e i j
  else if rf_ct (rf_C m i j) j = 1 then rf_on a e i j (rf_la (rf_C m i j) i j) (rf_mt m (rf_la (rf_C m i j) i j))
  else e 13 + e 14 * nI (rf_ct (rf_C m i j) j + 1) + e 15 * nI (rf_ct (rf_U m i j) j) + rf_en a e i j + rf_sm (rf_C m i j) (fun k => rf_en a e k (rf_mt m k)) j
/-- (i, j) inside no other pair -/
def rf_O (m : rf_M) (i j : Nat) : Prop := ∀ p q, p < i → m p = some q → ¬ j < q
noncomputable def rf_EN (a e : Nat → Int32) (m : rf_M) : Nat → Int32
  | 0 => 0
  | i + 1 => (m i).elim (rf_EN a e m i) (fun j => if i < j then (if rf_d (rf_O m i j) = true then rf_EN a e m i + rf_LE a e m i j + rf_en a e i j else rf_EN a e m i + rf_LE a e m i j) else rf_EN a e m i)
theorem rf_EN_n {a e : Nat → Int32} {m : rf_M} {i : Nat} (h : m i = none) : rf_EN a e m (i + 1) = rf_EN a e m i := by
  simp only [rf_EN]; rw [h]; rfl
theorem rf_EN_d {a e : Nat → Int32} {m : rf_M} {i j : Nat} (h : m i = some j) (hj : ¬ i < j) : rf_EN a e m (i + 1) = rf_EN a e m i := by
  simp only [rf_EN]; rw [h]; exact if_neg hj
theorem rf_EN_o {a e : Nat → Int32} {m : rf_M} {i j : Nat} (h : m i = some j) (hj : i < j) (ho : rf_O m i j) : rf_EN a e m (i + 1) = rf_EN a e m i + rf_LE a e m i j + rf_en a e i j := by
  simp only [rf_EN]; rw [h]; exact (if_pos hj).trans (if_pos (rf_dt ho))
theorem rf_EN_i {a e : Nat → Int32} {m : rf_M} {i j : Nat} (h : m i = some j) (hj : i < j) (ho : ¬ rf_O m i j) : rf_EN a e m (i + 1) = rf_EN a e m i + rf_LE a e m i j := by
  simp only [rf_EN]; rw [h]; exact (if_pos hj).trans (if_neg (rf_df ho))
theorem rf_EN_0 (a e : Nat → Int32) : ∀ i, rf_EN a e rf_0 i = 0
  | 0 => rfl
  | i + 1 => by rw [rf_EN_n (m := rf_0) rfl]; exact rf_EN_0 a e i
/-! X's scan of a loop: what passed says -/
def rf_PA (m : rf_M) (i j p pa : Nat) : Prop :=
  (pa ≤ p ∧ ∀ r q, i < r → r < p → m r = some q → q < p) ∨ (∃ k l, pa = l + 1 ∧ i < k ∧ k < p ∧ p ≤ l ∧ m k = some l ∧ rf_I m i j k l)
theorem rf_PA_0 {m : rf_M} {i j : Nat} : rf_PA m i j (i + 1) (i + 1) := Or.inl ⟨Nat.le_refl _, fun r q h1 h2 => by omega⟩
theorem rf_PA_1 {n : Nat} {m : rf_M} {i j p pa l : Nat} (hW : rf_W n m) (hij : m i = some j) (hi : i < p) (hp : p < j) (h : rf_PA m i j p pa) (hpa : pa ≤ p) (hm : m p = some l) (hl : p < l) : rf_C m i j p ∧ ¬ rf_U m i j p ∧ rf_PA m i j (p + 1) (l + 1) := by
  have hlj := (hW.2 i j p l hij hm hi hp).2
  have hI : rf_I m i j p l := by
    rcases h with ⟨-, h⟩ | ⟨k, l', h1, h2, h3, h4, -⟩
    · refine ⟨hi, hlj, fun r q r1 r2 r3 => ?_⟩
      have := h r q r1 r2 r3
      omega
    · omega
  refine ⟨⟨l, hm, hl, hI⟩, fun z => ?_, Or.inr ⟨p, l, rfl, hi, by omega, by omega, hm, hI⟩⟩
  have := z.2.1
  rw [hm] at this; cases this
theorem rf_PA_2 {n : Nat} {m : rf_M} {i j p pa : Nat} (hW : rf_W n m) (hij : m i = some j) (hi : i < p) (hp : p < j) (h : rf_PA m i j p pa) (hpa : pa ≤ p) (hm : ∀ l, m p = some l → ¬ p < l) : ¬ rf_C m i j p ∧ rf_U m i j p ∧ rf_PA m i j (p + 1) pa := by
  rcases h with ⟨-, h⟩ | ⟨k, l', h1, h2, h3, h4, -⟩
  · have hn : m p = none := by
      cases e : m p with
      | none => rfl
      | some l =>
        exfalso
        have a1 := hm l e
        obtain ⟨-, -, a2, a3⟩ := hW.1 p l e
        have a4 := hW.2 i j p l hij e hi hp
        have := h l p a4.1 (by omega) a3
        omega
    refine ⟨fun ⟨l, z, _⟩ => (by rw [hn] at z; cases z), ⟨hi, hn, fun ⟨k, l, z1, z2, z3, z4, _⟩ => ?_⟩, Or.inl ⟨by omega, fun r q r1 r2 r3 => ?_⟩⟩
    · have := h k l z1 z2 z3
      omega
    · by_cases e : r = p
      · rw [e, hn] at r3; cases r3
      · have := h r q r1 (by omega) r3
        omega
  · omega
theorem rf_PA_3 {n : Nat} {m : rf_M} {i j p pa : Nat} (hW : rf_W n m) (hij : m i = some j) (hi : i < p) (hp : p < j) (h : rf_PA m i j p pa) (hpa : p < pa) : ¬ rf_C m i j p ∧ ¬ rf_U m i j p ∧ rf_PA m i j (p + 1) pa := by
  rcases h with ⟨h, -⟩ | ⟨k, l, h1, h2, h3, h4, h5, h6⟩
  · omega
  · obtain ⟨-, -, a2, a3⟩ := hW.1 k l h5
    refine ⟨fun ⟨q, z1, z2, z3⟩ => ?_, fun ⟨z1, z2, z3⟩ => z3 ⟨k, l, h2, h3, h5, ?_, h6⟩, ?_⟩
    · by_cases e : p = l
      · rw [e, a3] at z1; cases z1; omega
      · have b := hW.2 k l p q h5 z1 h3 (by omega)
        exact z3.2.2 k l h2 h3 h5 ⟨b.2, h6.2.1⟩
    · by_cases e : p = l
      · rw [e, a3] at z2; cases z2
      · omega
    · by_cases e : p = l
      · refine Or.inl ⟨by omega, fun r q r1 r2 r3 => ?_⟩
        rcases Nat.lt_or_ge q (p + 1) with z | z
        · exact z
        · exfalso
          have b : q < j := (hW.2 i j r q hij r3 r1 (by omega)).2
          rcases Nat.lt_trichotomy r k with c | c | c
          · exact h6.2.2 r q r1 c r3 ⟨by omega, b⟩
          · rw [c, h5] at r3; cases r3; omega
          · by_cases d : r = l
            · rw [d, a3] at r3; cases r3; omega
            · have := hW.2 k l r q h5 r3 c (by omega)
              omega
      · exact Or.inr ⟨k, l, h1, h2, by omega, by omega, h5, h6⟩
def rf_PO (m : rf_M) (i o : Nat) : Prop :=
  (o ≤ i ∧ ∀ r q, r < i → m r = some q → q < i) ∨ (∃ k l, o = l + 1 ∧ k < i ∧ i ≤ l ∧ m k = some l ∧ rf_O m k l)
theorem rf_PO_0 {m : rf_M} : rf_PO m 0 0 := Or.inl ⟨Nat.le_refl _, fun r q h => by omega⟩
theorem rf_PO_1 {m : rf_M} {i j o : Nat} (h : rf_PO m i o) (ho : o ≤ i) (hm : m i = some j) (hj : i < j) : rf_O m i j ∧ rf_PO m (i + 1) (j + 1) := by
  have hO : rf_O m i j := by
    rcases h with ⟨-, h⟩ | ⟨k, l, h1, h2, h3, -⟩
    · intro p q h1 h2
      have := h p q h1 h2
      omega
    · omega
  exact ⟨hO, Or.inr ⟨i, j, rfl, by omega, by omega, hm, hO⟩⟩
theorem rf_PO_2 {n : Nat} {m : rf_M} {i j o : Nat} (hW : rf_W n m) (h : rf_PO m i o) (ho : i < o) (hm : m i = some j) (hj : i < j) : ¬ rf_O m i j ∧ rf_PO m (i + 1) o := by
  rcases h with ⟨h, -⟩ | ⟨k, l, h1, h2, h3, h4, h5⟩
  · omega
  · obtain ⟨-, -, a2, a3⟩ := hW.1 k l h4
    have e : i ≠ l := fun e => by rw [e, a3] at hm; cases hm; omega
    have b := hW.2 k l i j h4 hm h2 (by omega)
    exact ⟨fun z => z k l h2 h4 b.2, Or.inr ⟨k, l, h1, by omega, by omega, h4, h5⟩⟩
theorem rf_PO_3 {n : Nat} {m : rf_M} {i o : Nat} (hW : rf_W n m) (h : rf_PO m i o) (hm : ∀ l, m i = some l → ¬ i < l) : rf_PO m (i + 1) o := by
  rcases h with ⟨h0, h⟩ | ⟨k, l, h1, h2, h3, h4, h5⟩
  · refine Or.inl ⟨by omega, fun r q r1 r2 => ?_⟩
    by_cases e : r = i
    · rw [e] at r2
      have := hm q r2
      omega
    · have := h r q (by omega) r2
      omega
  · obtain ⟨-, -, a2, a3⟩ := hW.1 k l h4
    by_cases e : i = l
    · refine Or.inl ⟨by omega, fun r q r1 r2 => ?_⟩
      rcases Nat.lt_or_ge q (i + 1) with z | z
      · exact z
      · exfalso
        rcases Nat.lt_trichotomy r k with c | c | c
        · exact h5 r q c r2 (by omega)
        · rw [c, h4] at r2; cases r2; omega
        · by_cases d : r = l
          · rw [d, a3] at r2; cases r2; omega
          · have := hW.2 k l r q h4 r2 c (by omega)
            omega
    · exact Or.inr ⟨k, l, h1, by omega, by omega, h4, h5⟩
