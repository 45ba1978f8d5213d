/-! partner maps as arrays: z is the mark of a free base (-3 for X, -1 for Y); t what stands behind the 14 cells -/
def rf_c (z : Int32) (t : Nat → Int32) (m : rf_M) : Nat → Int32 := fun i => if i < 14 then (m i).elim z nI else t i
theorem rf_c_n {z : Int32} {t : Nat → Int32} {m : rf_M} {i : Nat} (hi : i < 14) (h : m i = none) : rf_c z t m i = z := by
  unfold rf_c; rw [if_pos hi, h]; rfl
theorem rf_c_s {z : Int32} {t : Nat → Int32} {m : rf_M} {i q : Nat} (hi : i < 14) (h : m i = some q) : rf_c z t m i = nI q := by
  unfold rf_c; rw [if_pos hi, h]; rfl
theorem rf_c_j {z : Int32} {t : Nat → Int32} {m : rf_M} {p q : Nat} (hp : p < 14) (hq : q < 14) : upd (upd (rf_c z t m) p (nI q)) q (nI p) = rf_c z t (rf_join m p q) := by
  funext i
  unfold upd rf_c rf_join
  by_cases h1 : i = q
  · subst h1; simp [hq]
  · by_cases h2 : i = p
    · subst h2; simp [h1, hp]
    · simp [h1, h2]
theorem rf_c_p {z : Int32} {t : Nat → Int32} {m : rf_M} {p q : Nat} (hp : p < 14) (hq : q < 14) : upd (upd (rf_c z t m) p z) q z = rf_c z t (rf_sep m p q) := by
  funext i
  unfold upd rf_c rf_sep
  by_cases h1 : i = q
  · subst h1; simp [hq]
  · by_cases h2 : i = p
    · subst h2; simp [h1, hp]
    · simp [h1, h2]
theorem rf_c_q {z : Int32} {t : Nat → Int32} {m : rf_M} {p q : Nat} (hp : p < 14) (hq : q < 14) : upd (upd (rf_c z t m) q z) p z = rf_c z t (rf_sep m p q) := by
  funext i
  unfold upd rf_c rf_sep
  by_cases h1 : i = q
  · subst h1
    by_cases h2 : i = p
    · subst h2; simp [hp]
    · simp [h2, hq]
  · by_cases h2 : i = p
    · subst h2; simp [h1, hp]
    · simp [h1, h2]
theorem rf_c_u {z : Int32} {t : Nat → Int32} {m : rf_M} {p : Nat} (hp : p < 14) (h : m p = none) : upd (rf_c z t m) p z = rf_c z t m := by
  funext i
  unfold upd rf_c
  by_cases h1 : i = p
  · subst h1; simp [hp, h]
  · simp [h1]
/-- the marks are below 0 -/
def rf_z (z : Int32) : Prop := z.toInt < 0
theorem rf_z3 : rf_z (-3) := by unfold rf_z; decide
theorem rf_z1 : rf_z (-1) := by unfold rf_z; decide
theorem rf_zlt {z : Int32} (hz : rf_z z) {p : Nat} (hp : p < 2 ^ 31) : z < nI p := by
  rw [Int32.lt_iff_toInt_lt, nI_toInt hp]; unfold rf_z at hz; omega
theorem rf_zle {z : Int32} (hz : rf_z z) {p : Nat} (hp : p < 2 ^ 31) : z ≤ nI p := by
  rw [Int32.le_iff_toInt_le, nI_toInt hp]; unfold rf_z at hz; omega
theorem rf_znlt {z : Int32} (hz : rf_z z) {p : Nat} (hp : p < 2 ^ 31) : ¬ nI p < z := by
  rw [Int32.lt_iff_toInt_lt, nI_toInt hp]; unfold rf_z at hz; omega
theorem rf_znle {z : Int32} (hz : rf_z z) {p : Nat} (hp : p < 2 ^ 31) : ¬ nI p ≤ z := by
  rw [Int32.le_iff_toInt_le, nI_toInt hp]; unfold rf_z at hz; omega
theorem rf_zne {z : Int32} (hz : rf_z z) {p : Nat} (hp : p < 2 ^ 31) : ¬ nI p = z := by
  intro e
  have := nI_toInt hp
  rw [e] at this; unfold rf_z at hz; omega
theorem rf_z0 {z : Int32} (hz : rf_z z) : z < 0 := by
  rw [Int32.lt_iff_toInt_lt]; exact hz
/-- the cells below i set to z -/
def rf_ini (z : Int32) (t : Nat → Int32) (i : Nat) : Nat → Int32 := fun j => if j < i then z else t j
theorem rf_ini_0 {z : Int32} {t : Nat → Int32} : rf_ini z t 0 = t := by funext j; simp [rf_ini]
theorem rf_ini_s {z : Int32} {t : Nat → Int32} {i : Nat} : upd (rf_ini z t i) i z = rf_ini z t (i + 1) := by
  funext j
  unfold upd rf_ini
  by_cases h : j = i
  · subst h; simp
  · by_cases h2 : j < i
    · rw [if_neg h, if_pos h2, if_pos (by omega)]
    · rw [if_neg h, if_neg h2, if_neg (by omega)]
theorem rf_ini_e {z : Int32} {t : Nat → Int32} : rf_ini z t 14 = rf_c z t rf_0 := by
  funext j
  unfold rf_ini rf_c rf_0
  rfl
/-- the cells below i copied from w -/
def rf_cpy (w t : Nat → Int32) (i : Nat) : Nat → Int32 := fun j => if j < i then w j else t j
theorem rf_cpy_0 {w t : Nat → Int32} : rf_cpy w t 0 = t := by funext j; simp [rf_cpy]
theorem rf_cpy_s {w t : Nat → Int32} {i : Nat} : upd (rf_cpy w t i) i (w i) = rf_cpy w t (i + 1) := by
  funext j
  unfold upd rf_cpy
  by_cases h : j = i
  · subst h; simp
  · by_cases h2 : j < i
    · rw [if_neg h, if_pos h2, if_pos (by omega)]
    · rw [if_neg h, if_neg h2, if_neg (by omega)]
theorem rf_cpy_e {z : Int32} {t b : Nat → Int32} {m : rf_M} : rf_cpy (rf_c z t m) b 14 = rf_c z b m := by
  funext j
  unfold rf_cpy rf_c
  by_cases h : j < 14
  · rw [if_pos h, if_pos h, if_pos h]
  · rw [if_neg h, if_neg h]
