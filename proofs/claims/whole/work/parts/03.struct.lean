/-! pure: structures, what fits, the number of structures, the best of a list from both ends -/
def rf_W (n : Nat) (m : rf_M) : Prop :=
  (∀ i q, m i = some q → i < n ∧ q < n ∧ q ≠ i ∧ m q = some i) ∧
  (∀ i j k l, m i = some j → m k = some l → i < k → k < j → i < l ∧ l < j)
def rf_F (m : rf_M) (i j : Nat) : Prop := m i = none ∧ m j = none ∧ ∀ p q, i < p → p < j → m p = some q → i ≤ q ∧ q ≤ j
def rf_ok (n : Nat) (cp : Nat → Nat → Prop) (m : rf_M) (p q : Nat) : Prop := p < q ∧ q < n ∧ cp p q ∧ rf_F m p q
theorem rf_ok_P (n : Nat) (cp : Nat → Nat → Prop) : rf_okP n (rf_ok n cp) := fun _ _ _ h => ⟨h.1, h.2.1, h.2.2.2.1, h.2.2.2.2.1⟩
theorem rf_W0 (n : Nat) : rf_W n rf_0 := ⟨fun i q h => (by cases h), fun i j k l h => (by cases h)⟩
theorem rf_Wj {n : Nat} {m : rf_M} {p q : Nat} (hW : rf_W n m) (hpq : p < q) (hq : q < n) (hF : rf_F m p q) : rf_W n (rf_join m p q) := by
  obtain ⟨w1, w2⟩ := hW
  obtain ⟨f1, f2, f3⟩ := hF
  have nn : ∀ {i j}, m i = some j → i ≠ p ∧ i ≠ q ∧ j ≠ p ∧ j ≠ q := by
    intro i j h
    obtain ⟨-, -, -, h4⟩ := w1 i j h
    refine ⟨fun e => ?_, fun e => ?_, fun e => ?_, fun e => ?_⟩
    · rw [e, f1] at h; cases h
    · rw [e, f2] at h; cases h
    · rw [e, f1] at h4; cases h4
    · rw [e, f2] at h4; cases h4
  have cs : ∀ {i j}, rf_join m p q i = some j → (i = q ∧ j = p) ∨ (i = p ∧ j = q) ∨ m i = some j := by
    intro i j h
    by_cases e1 : i = q
    · rw [e1, rf_jq] at h; cases h; exact Or.inl ⟨e1, rfl⟩
    · by_cases e2 : i = p
      · rw [e2, rf_jp (by omega)] at h; cases h; exact Or.inr (Or.inl ⟨e2, rfl⟩)
      · rw [rf_jo e2 e1] at h; exact Or.inr (Or.inr h)
  refine ⟨fun i j h => ?_, fun i j k l h1 h2 h3 h4 => ?_⟩
  · rcases cs h with ⟨rfl, rfl⟩ | ⟨rfl, rfl⟩ | h
    · exact ⟨hq, by omega, by omega, rf_jp (by omega)⟩
    · exact ⟨by omega, hq, by omega, rf_jq⟩
    · obtain ⟨a1, a2, a3, a4⟩ := w1 i j h
      obtain ⟨b1, b2, b3, b4⟩ := nn h
      exact ⟨a1, a2, a3, by rw [rf_jo b3 b4]; exact a4⟩
  · rcases cs h1 with ⟨e1, e2⟩ | ⟨e1, e2⟩ | g1
    · omega
    · rcases cs h2 with ⟨e3, e4⟩ | ⟨e3, e4⟩ | g2
      · omega
      · omega
      · have := f3 k l (by omega) (by omega) g2
        obtain ⟨b1, b2, b3, b4⟩ := nn g2
        omega
    · obtain ⟨b1, b2, b3, b4⟩ := nn g1
      obtain ⟨-, -, -, a4⟩ := w1 i j g1
      rcases cs h2 with ⟨e3, e4⟩ | ⟨e3, e4⟩ | g2
      · refine ⟨?_, by omega⟩
        rcases Nat.lt_or_ge i l with z | z
        · exact z
        · have := f3 i j (by omega) (by omega) g1
          omega
      · refine ⟨by omega, ?_⟩
        rcases Nat.lt_or_ge l j with z | z
        · exact z
        · have := f3 j i (by omega) (by omega) a4
          omega
      · exact w2 i j k l g1 g2 h3 h4
theorem rf_Ws {n : Nat} {m : rf_M} {p q : Nat} (hW : rf_W n m) (hm : m p = some q) : rf_W n (rf_sep m p q) := by
  obtain ⟨w1, w2⟩ := hW
  obtain ⟨-, -, -, hmq⟩ := w1 p q hm
  have cs : ∀ {i j}, rf_sep m p q i = some j → i ≠ p ∧ i ≠ q ∧ m i = some j := by
    intro i j h
    by_cases e1 : i = q
    · rw [e1, rf_sq] at h; cases h
    · by_cases e2 : i = p
      · rw [e2, rf_sp] at h; cases h
      · rw [rf_so e2 e1] at h; exact ⟨e2, e1, h⟩
  refine ⟨fun i j h => ?_, fun i j k l h1 h2 h3 h4 => w2 i j k l (cs h1).2.2 (cs h2).2.2 h3 h4⟩
  obtain ⟨c1, c2, c3⟩ := cs h
  obtain ⟨a1, a2, a3, a4⟩ := w1 i j c3
  refine ⟨a1, a2, a3, ?_⟩
  have d1 : j ≠ p := fun e => by rw [e, hm] at a4; cases a4; exact c2 rfl
  have d2 : j ≠ q := fun e => by rw [e, hmq] at a4; cases a4; exact c1 rfl
  rw [rf_so d1 d2]; exact a4
theorem rf_TW {n : Nat} {cp : Nat → Nat → Prop} : ∀ (k p : Nat) (m : rf_M), rf_W n m → ∀ x, x ∈ rf_T n (rf_ok n cp) k p m → rf_W n x := by
  intro k
  induction k with
  | zero =>
    intro p m hW x hx
    have e : x = m := List.mem_singleton.mp hx
    rw [e]; exact hW
  | succ k ih =>
    intro p m hW x hx
    cases hm : m p with
    | some q => rw [rf_T_s hm] at hx; exact ih _ _ hW x hx
    | none =>
      rw [rf_T_n hm] at hx
      rcases List.mem_append.mp hx with h | h
      · exact ih _ _ hW x h
      · have key : ∀ a, x ∈ rf_tq (fun q => rf_T n (rf_ok n cp) k (p + 1) (rf_join m p q)) (rf_ok n cp m p) a → rf_W n x := by
          intro a
          induction a with
          | zero => intro z; cases z
          | succ a iha =>
            intro z
            by_cases o : rf_ok n cp m p a
            · rw [rf_tq_t o] at z
              rcases List.mem_append.mp z with z | z
              · exact ih _ _ (rf_Wj hW o.1 o.2.1 o.2.2.2) x z
              · exact iha z
            · rw [rf_tq_f o] at z; exact iha z
        exact key n h
/-! the number of structures -/
def rf_B : Nat → Nat
  | 0 => 1 | 1 => 1 | 2 => 1 | 3 => 1 | 4 => 2 | 5 => 4 | 6 => 8 | 7 => 16 | 8 => 33 | 9 => 69 | 10 => 146 | 11 => 312 | 12 => 673 | 13 => 1463 | 14 => 3202 | _ => 0
def rf_S (L : Nat) : Nat → Nat
  | 0 => 0
  | d + 1 => (if 2 ≤ d ∧ d + 1 ≤ L then rf_B (L - d - 1) * rf_B d else 0) + rf_S L d
theorem rf_S_mono (L : Nat) : ∀ e d, rf_S L d ≤ rf_S L (d + e) := by
  intro e
  induction e with
  | zero => intro d; exact Nat.le_refl _
  | succ e ih =>
    intro d
    have h := ih d
    have h2 : rf_S L (d + (e + 1)) = (if 2 ≤ d + e ∧ d + e + 1 ≤ L then rf_B (L - (d + e) - 1) * rf_B (d + e) else 0) + rf_S L (d + e) := rfl
    omega
theorem rf_B_rec : ∀ L, L < 14 → rf_B L + rf_S L 14 ≤ rf_B (L + 1) := by decide +kernel
theorem rf_B_max : ∀ L, L < 15 → rf_B L ≤ 3202 := by decide +kernel
def rf_G : Nat → Nat → rf_M → Nat × Nat
  | 0, _, _ => (1, 0)
  | k + 1, p, m => (m p).elim ((rf_G k (p + 1) m).1, (rf_G k (p + 1) m).2 + 1) (fun _ => ((rf_G k (p + 1) m).1 * rf_B (rf_G k (p + 1) m).2, 0))
theorem rf_G_n {k p : Nat} {m : rf_M} (h : m p = none) : rf_G (k + 1) p m = ((rf_G k (p + 1) m).1, (rf_G k (p + 1) m).2 + 1) := by
  simp only [rf_G]; rw [h]; rfl
theorem rf_G_s {k p q : Nat} {m : rf_M} (h : m p = some q) : rf_G (k + 1) p m = ((rf_G k (p + 1) m).1 * rf_B (rf_G k (p + 1) m).2, 0) := by
  simp only [rf_G]; rw [h]; rfl
theorem rf_G_le : ∀ (k p : Nat) (m : rf_M), (rf_G k p m).2 ≤ k := by
  intro k
  induction k with
  | zero => intro p m; exact Nat.le_refl _
  | succ k ih =>
    intro p m
    have := ih (p + 1) m
    cases h : m p with
    | none => rw [rf_G_n h]; show _ + 1 ≤ _; omega
    | some q => rw [rf_G_s h]; show 0 ≤ _; omega
theorem rf_G_c : ∀ (k p : Nat) (m m' : rf_M), (∀ i, p ≤ i → m i = m' i) → rf_G k p m = rf_G k p m' := by
  intro k
  induction k with
  | zero => intro p m m' _; rfl
  | succ k ih =>
    intro p m m' h
    have e := ih (p + 1) m m' (fun i hi => h i (by omega))
    simp only [rf_G]; rw [h p (Nat.le_refl p), e]
theorem rf_G_j {p : Nat} {m : rf_M} : ∀ (d k p' : Nat), d < k → p < p' → (∀ i, p' ≤ i → i ≤ p' + d → m i = none) →
    d + 1 ≤ (rf_G k p' m).2 ∧ rf_G k p' (rf_join m p (p' + d)) = ((rf_G k p' m).1 * rf_B ((rf_G k p' m).2 - d - 1), d) := by
  intro d
  induction d with
  | zero =>
    intro k p' hd hp hf
    obtain ⟨k, rfl⟩ : ∃ k', k = k' + 1 := ⟨k - 1, by omega⟩
    have h0 : m p' = none := hf p' (Nat.le_refl _) (by omega)
    have e : rf_G k (p' + 1) (rf_join m p (p' + 0)) = rf_G k (p' + 1) m := rf_G_c _ _ _ _ (fun i hi => rf_jo (by omega) (by omega))
    rw [rf_G_n h0, rf_G_s (m := rf_join m p (p' + 0)) (p := p') (q := p) rf_jq, e]
    refine ⟨?_, ?_⟩
    · show _ ≤ _ + 1; omega
    · show (_, _) = (_ * rf_B (_ + 1 - 0 - 1), _)
      rw [show (rf_G k (p' + 1) m).2 + 1 - 0 - 1 = (rf_G k (p' + 1) m).2 from by omega]
  | succ d ih =>
    intro k p' hd hp hf
    obtain ⟨k, rfl⟩ : ∃ k', k = k' + 1 := ⟨k - 1, by omega⟩
    have h0 : m p' = none := hf p' (Nat.le_refl _) (by omega)
    obtain ⟨i1, i2⟩ := ih k (p' + 1) (by omega) (by omega) (fun i h1 h2 => hf i (by omega) (by omega))
    rw [show p' + 1 + d = p' + (d + 1) from by omega] at i2
    have h1 : rf_join m p (p' + (d + 1)) p' = none := by rw [rf_jo (by omega) (by omega)]; exact h0
    rw [rf_G_n h0, rf_G_n h1, i2]
    refine ⟨?_, ?_⟩
    · show _ ≤ _ + 1; omega
    · show (_ * _, _) = (_ * rf_B (_ + 1 - (d + 1) - 1), _)
      rw [show (rf_G k (p' + 1) m).2 + 1 - (d + 1) - 1 = (rf_G k (p' + 1) m).2 - d - 1 from by omega]
theorem rf_len {n : Nat} {cp : Nat → Nat → Prop} (hn14 : n ≤ 14) (hcp : ∀ p q, p < q → q < n → cp p q → p + 3 ≤ q) : ∀ (k p : Nat) (m : rf_M), n = p + k → rf_D p m →
    (rf_T n (rf_ok n cp) k p m).length ≤ (rf_G k p m).1 * rf_B (rf_G k p m).2 := by
  intro k
  induction k with
  | zero => intro p m hn hD; exact Nat.le_refl _
  | succ k ih =>
    intro p m hn hD
    have h1 := ih (p + 1) m (by omega) (rf_D_s hD)
    cases hm : m p with
    | some q =>
      rw [rf_T_s hm, rf_G_s hm]
      show _ ≤ _ * rf_B 0
      rw [show rf_B 0 = 1 from rfl, Nat.mul_one]
      exact h1
    | none =>
      rw [rf_T_n hm, rf_G_n hm, List.length_append]
      have hL := rf_G_le k (p + 1) m
      have key : ∀ a, a ≤ n → (rf_tq (fun q => rf_T n (rf_ok n cp) k (p + 1) (rf_join m p q)) (rf_ok n cp m p) a).length ≤ (rf_G k (p + 1) m).1 * rf_S (rf_G k (p + 1) m).2 (a - (p + 1)) := by
        intro a
        induction a with
        | zero => intro _; exact Nat.zero_le _
        | succ a iha =>
          intro ha
          have h2 := iha (by omega)
          by_cases o : rf_ok n cp m p a
          · have h3 := hcp p a o.1 o.2.1 o.2.2.1
            obtain ⟨d, hd⟩ : ∃ d, a = p + 1 + d := ⟨a - (p + 1), by omega⟩
            have hf : ∀ i, p + 1 ≤ i → i ≤ p + 1 + d → m i = none := by
              intro i i1 i2
              cases hi : m i with
              | none => rfl
              | some s =>
                exfalso
                have h4 := hD i s (by omega) hi
                by_cases e : i = a
                · rw [e, o.2.2.2.2.1] at hi; cases hi
                · have := o.2.2.2.2.2 i s (by omega) (by omega) hi
                  omega
            obtain ⟨j1, j2⟩ := rf_G_j (p := p) (m := m) d k (p + 1) (by omega) (by omega) hf
            have h5 := ih (p + 1) (rf_join m p a) (by omega) (rf_D_j hD)
            rw [hd, j2] at h5
            rw [rf_tq_t o, List.length_append, show a + 1 - (p + 1) = d + 1 from by omega]
            rw [show a - (p + 1) = d from by omega] at h2
            have e : rf_S (rf_G k (p + 1) m).2 (d + 1) = rf_B ((rf_G k (p + 1) m).2 - d - 1) * rf_B d + rf_S (rf_G k (p + 1) m).2 d := by
              simp only [rf_S]; rw [if_pos ⟨by omega, j1⟩]
            rw [e, Nat.mul_add, ← Nat.mul_assoc]
            rw [← hd] at h5
            exact Nat.add_le_add h5 h2
          · rw [rf_tq_f o]
            refine Nat.le_trans h2 (Nat.mul_le_mul_left _ ?_)
            have := rf_S_mono (rf_G k (p + 1) m).2 (a + 1 - (p + 1) - (a - (p + 1))) (a - (p + 1))
            rw [show a - (p + 1) + (a + 1 - (p + 1) - (a - (p + 1))) = a + 1 - (p + 1) from by omega] at this
            exact this
      have h6 := key n (Nat.le_refl n)
      have h7 := rf_S_mono (rf_G k (p + 1) m).2 (14 - (n - (p + 1))) (n - (p + 1))
      rw [show n - (p + 1) + (14 - (n - (p + 1))) = 14 from by omega] at h7
      have h8 := rf_B_rec (rf_G k (p + 1) m).2 (by omega)
      refine Nat.le_trans (Nat.add_le_add h1 h6) ?_
      show _ ≤ _ * rf_B (_ + 1)
      rw [← Nat.mul_add]
      exact Nat.mul_le_mul_left _ (by omega)
theorem rf_G_0 : ∀ (k p : Nat), rf_G k p rf_0 = (1, k) := by
  intro k
  induction k with
  | zero => intro p; rfl
  | succ k ih => intro p; rw [rf_G_n (m := rf_0) rfl, ih]
noncomputable def rf_L (n : Nat) (cp : Nat → Nat → Prop) : List rf_M := rf_T n (rf_ok n cp) n 0 rf_0
theorem rf_D0 : rf_D 0 rf_0 := fun i q _ h => by cases h
theorem rf_L_len {n : Nat} {cp : Nat → Nat → Prop} (hn14 : n ≤ 14) (hcp : ∀ p q, p < q → q < n → cp p q → p + 3 ≤ q) : (rf_L n cp).length ≤ 3202 := by
  have h := rf_len hn14 hcp n 0 rf_0 (by omega) rf_D0
  rw [rf_G_0] at h
  have h2 := rf_B_max n (by omega)
  have h3 : (rf_L n cp).length ≤ 1 * rf_B n := h
  omega
theorem rf_L_x {n : Nat} {cp : Nat → Nat → Prop} : rf_go (rf_nx n (rf_ok n cp) n) (some rf_0) (rf_L n cp) none :=
  rf_gx (rf_ok_P n cp) n 0 rf_0 (by omega) rf_D0
theorem rf_L_y {n : Nat} {cp : Nat → Nat → Prop} : rf_go (rf_ny n (rf_ok n cp) n) (some (rf_fl n (rf_ok n cp) n 0 rf_0)) (rf_L n cp).reverse none :=
  rf_gy (rf_ok_P n cp) n 0 rf_0 (by omega) rf_D0
theorem rf_L_W {n : Nat} {cp : Nat → Nat → Prop} : ∀ x, x ∈ rf_L n cp → rf_W n x := rf_TW n 0 rf_0 (rf_W0 n)
theorem rf_L_h {n : Nat} {cp : Nat → Nat → Prop} : ∃ l, rf_L n cp = rf_0 :: l := by
  have h := rf_L_x (n := n) (cp := cp)
  cases e : rf_L n cp with
  | nil => rw [e] at h; cases h
  | cons m l => rw [e] at h; exact ⟨l, by rw [Option.some.inj h.1]⟩
/-! the best of a list: X from its front, Y from its back -/
def rf_fx (E : rf_M → Int32) (a : Int32 × rf_M) (m : rf_M) : Int32 × rf_M := if E m ≤ a.1 then (E m, m) else a
def rf_fy (E : rf_M → Int32) (a : Int32 × rf_M) (m : rf_M) : Int32 × rf_M := if E m < a.1 then (E m, m) else a
def rf_R (E : rf_M → Int32) (z : Int32 × rf_M) : List rf_M → Int32 × rf_M
  | [] => z
  | m :: l => rf_fy E (rf_R E z l) m
theorem rf_R_y (E : rf_M → Int32) (z : Int32 × rf_M) : ∀ l : List rf_M, l.reverse.foldl (rf_fy E) z = rf_R E z l
  | [] => rfl
  | m :: l => by rw [List.reverse_cons, List.foldl_append, rf_R_y E z l]; rfl
theorem rf_R_x (E : rf_M → Int32) (z : Int32 × rf_M) : ∀ (l : List rf_M) (a : Int32 × rf_M), a.1 < z.1 → l.foldl (rf_fx E) a = if (rf_R E z l).1 ≤ a.1 then rf_R E z l else a
  | [], a, h => by
    have h' : ¬ z.1 ≤ a.1 := by rw [Int32.le_iff_toInt_le]; rw [Int32.lt_iff_toInt_lt] at h; omega
    exact (if_neg h').symm
  | m :: l, a, h => by
    have hR : rf_R E z (m :: l) = if E m < (rf_R E z l).1 then (E m, m) else rf_R E z l := rfl
    rw [hR, List.foldl_cons]
    rw [Int32.lt_iff_toInt_lt] at h
    by_cases c : E m ≤ a.1
    · have e : rf_fx E a m = (E m, m) := if_pos c
      have c' := Int32.le_iff_toInt_le.mp c
      rw [e, rf_R_x E z l (E m, m) (by rw [Int32.lt_iff_toInt_lt]; show (E m).toInt < _; omega)]
      show (if (rf_R E z l).1 ≤ E m then rf_R E z l else (E m, m)) = _
      by_cases d : E m < (rf_R E z l).1
      · have d' := Int32.lt_iff_toInt_lt.mp d
        rw [if_pos d, if_neg (by rw [Int32.le_iff_toInt_le]; omega)]
        exact (if_pos c).symm
      · have d' : (rf_R E z l).1.toInt ≤ (E m).toInt := by rw [Int32.lt_iff_toInt_lt] at d; omega
        rw [if_neg d, if_pos (by rw [Int32.le_iff_toInt_le]; omega), if_pos (by rw [Int32.le_iff_toInt_le]; omega)]
    · have e : rf_fx E a m = a := if_neg c
      have c' : a.1.toInt < (E m).toInt := by rw [Int32.le_iff_toInt_le] at c; omega
      rw [e, rf_R_x E z l a (by rw [Int32.lt_iff_toInt_lt]; omega)]
      by_cases d : E m < (rf_R E z l).1
      · have d' := Int32.lt_iff_toInt_lt.mp d
        rw [if_pos d, if_neg (by rw [Int32.le_iff_toInt_le]; omega)]
        exact (if_neg c).symm
      · rw [if_neg d]
theorem rf_best {E : rf_M → Int32} {z : Int32 × rf_M} {l : List rf_M} {b : rf_M} (h0 : E rf_0 = 0) (hz : (0 : Int32) < z.1) : (rf_0 :: l).foldl (rf_fx E) (0, b) = (rf_0 :: l).reverse.foldl (rf_fy E) z := by
  have e : rf_fx E (0, b) rf_0 = (E rf_0, rf_0) := if_pos (by rw [h0]; exact Int32.le_refl 0)
  rw [rf_R_y, List.foldl_cons, e, rf_R_x E z l (E rf_0, rf_0) (by rw [h0]; exact hz)]
  show (if (rf_R E z l).1 ≤ E rf_0 then rf_R E z l else (E rf_0, rf_0)) = if E rf_0 < (rf_R E z l).1 then (E rf_0, rf_0) else rf_R E z l
  by_cases d : E rf_0 < (rf_R E z l).1
  · have d' := Int32.lt_iff_toInt_lt.mp d
    rw [if_pos d, if_neg (by rw [Int32.le_iff_toInt_le]; omega)]
  · rw [if_neg d, if_pos (by rw [Int32.le_iff_toInt_le]; rw [Int32.lt_iff_toInt_lt] at d; omega)]
/-- the least of a walk is not above 0 -/
theorem rf_best_0 {E : rf_M → Int32} {z : Int32 × rf_M} {l : List rf_M} (h0 : E rf_0 = 0) : ((rf_0 :: l).reverse.foldl (rf_fy E) z).1 ≤ 0 := by
  rw [rf_R_y]
  show (if E rf_0 < (rf_R E z l).1 then (E rf_0, rf_0) else rf_R E z l).1 ≤ 0
  by_cases d : E rf_0 < (rf_R E z l).1
  · rw [if_pos d]; show E rf_0 ≤ 0; rw [h0]; decide
  · rw [if_neg d]; rw [h0, Int32.lt_iff_toInt_lt] at d; rw [Int32.le_iff_toInt_le]; omega
/-- how many of a list -/
noncomputable def rf_k (P : rf_M → Prop) : List rf_M → Nat
  | [] => 0
  | m :: l => (if rf_d (P m) = true then 1 else 0) + rf_k P l
theorem rf_k_app (P : rf_M → Prop) (l2 : List rf_M) : ∀ l1 : List rf_M, rf_k P (l1 ++ l2) = rf_k P l1 + rf_k P l2
  | [] => by show rf_k P l2 = 0 + rf_k P l2; omega
  | m :: l => by
    show (if rf_d (P m) = true then 1 else 0) + rf_k P (l ++ l2) = (if rf_d (P m) = true then 1 else 0) + rf_k P l + rf_k P l2
    rw [rf_k_app P l2 l]; omega
theorem rf_k_rev (P : rf_M → Prop) : ∀ l : List rf_M, rf_k P l.reverse = rf_k P l
  | [] => rfl
  | m :: l => by
    rw [List.reverse_cons, rf_k_app, rf_k_rev P l]
    show rf_k P l + ((if rf_d (P m) = true then 1 else 0) + 0) = (if rf_d (P m) = true then 1 else 0) + rf_k P l
    omega
theorem rf_k_t {P : rf_M → Prop} {m : rf_M} {l : List rf_M} (h : P m) : rf_k P (m :: l) = 1 + rf_k P l := by
  simp only [rf_k]; rw [if_pos (rf_dt h)]
theorem rf_k_f {P : rf_M → Prop} {m : rf_M} {l : List rf_M} (h : ¬ P m) : rf_k P (m :: l) = rf_k P l := by
  simp only [rf_k]; rw [if_neg (rf_df h)]; omega
theorem rf_k_le (P : rf_M → Prop) : ∀ l : List rf_M, rf_k P l ≤ l.length
  | [] => Nat.le_refl _
  | m :: l => by
    have := rf_k_le P l
    by_cases h : P m
    · rw [rf_k_t h, List.length_cons]; omega
    · rw [rf_k_f h, List.length_cons]; omega
