/-! numbers: Int32 and Int64 by integers -/
theorem i32t {z : Int} (h : inR z) : (Int32.ofInt z).toInt = z := by
  rw [Int32.toInt_ofInt]
  exact Int.bmod_eq_of_le (by simp [Int32.size]; omega) (by simp [Int32.size]; omega)
theorem i64t {z : Int} (h : inJ z) : (Int64.ofInt z).toInt = z := by
  rw [Int64.toInt_ofInt]
  exact Int.bmod_eq_of_le (by simp [Int64.size]; omega) (by simp [Int64.size]; omega)
theorem i32o (x : Int32) : Int32.ofInt x.toInt = x := Int32.ofInt_toInt x
theorem i64o (x : Int64) : Int64.ofInt x.toInt = x := Int64.ofInt_toInt x
theorem i32R (x : Int32) : inR x.toInt := by
  have h1 := Int32.le_toInt x
  have h2 := Int32.toInt_lt x
  constructor <;> simp at * <;> omega
theorem i64R (x : Int64) : inJ x.toInt := by
  have h1 := Int64.le_toInt x
  have h2 := Int64.toInt_lt x
  constructor <;> simp at * <;> omega
theorem i32lt {a b : Int} (ha : inR a) (hb : inR b) : Int32.ofInt a < Int32.ofInt b ↔ a < b := by
  rw [Int32.lt_iff_toInt_lt, i32t ha, i32t hb]
theorem i32le {a b : Int} (ha : inR a) (hb : inR b) : Int32.ofInt a ≤ Int32.ofInt b ↔ a ≤ b := by
  rw [Int32.le_iff_toInt_le, i32t ha, i32t hb]
theorem i32eq {a b : Int} (ha : inR a) (hb : inR b) : Int32.ofInt a = Int32.ofInt b ↔ a = b := by
  rw [← Int32.toInt_inj, i32t ha, i32t hb]
theorem i64lt {a b : Int} (ha : inJ a) (hb : inJ b) : Int64.ofInt a < Int64.ofInt b ↔ a < b := by
  rw [Int64.lt_iff_toInt_lt, i64t ha, i64t hb]
theorem i64eq {a b : Int} (ha : inJ a) (hb : inJ b) : Int64.ofInt a = Int64.ofInt b ↔ a = b := by
  rw [← Int64.toInt_inj, i64t ha, i64t hb]
theorem i32z : (0 : Int32) = Int32.ofInt 0 := rfl
theorem i64z : (0 : Int64) = Int64.ofInt 0 := rfl
theorem inR0 : inR 0 := by constructor <;> omega
theorem inJ0 : inJ 0 := by constructor <;> omega
theorem i32cl {z : Int} (h : inR z) : (Int32.ofInt z).toNatClampNeg = z.toNat := by
  show (Int32.ofInt z).toInt.toNat = z.toNat
  rw [i32t h]
theorem i32in {z : Int} {n : Nat} (h : inR z) (h0 : 0 ≤ z) (h1 : z < (n : Int)) : vp_in (Int32.ofInt z) n := by
  rw [vp_in_iff, i32t h]
  exact ⟨h0, h1⟩
theorem i32div {a b : Int} (ha : inR a) (hb : inR b) (hq : inR (a.tdiv b)) : Int32.ofInt a / Int32.ofInt b = Int32.ofInt (a.tdiv b) := by
  rw [← Int32.toInt_inj, Int32.toInt_div, i32t ha, i32t hb, i32t hq]
  exact Int.bmod_eq_of_le (by simp; omega) (by simp; omega)
theorem i64div {a b : Int} (ha : inJ a) (hb : inJ b) (hq : inJ (a.tdiv b)) : Int64.ofInt a / Int64.ofInt b = Int64.ofInt (a.tdiv b) := by
  rw [← Int64.toInt_inj, Int64.toInt_div, i64t ha, i64t hb, i64t hq]
  exact Int.bmod_eq_of_le (by simp; omega) (by simp; omega)
theorem tmodR {a b : Int} (ha : inR a) (hb : inR b) (h0 : b ≠ 0) : inR (a.tmod b) := by
  have h1 : (a.tmod b).natAbs ≤ a.natAbs := by
    rw [Int.natAbs_tmod]
    exact Nat.mod_le _ _
  have h2 : (a.tmod b).natAbs < b.natAbs := by
    rw [Int.natAbs_tmod]
    exact Nat.mod_lt _ (by omega)
  constructor <;> omega
theorem tmodJ {a b : Int} (ha : inJ a) (hb : inJ b) (h0 : b ≠ 0) : inJ (a.tmod b) := by
  have h2 : (a.tmod b).natAbs < b.natAbs := by
    rw [Int.natAbs_tmod]
    exact Nat.mod_lt _ (by omega)
  constructor <;> omega
theorem i32rem {a b : Int} (ha : inR a) (hb : inR b) (h0 : b ≠ 0) : Int32.ofInt a - Int32.ofInt a / Int32.ofInt b * Int32.ofInt b = Int32.ofInt (a.tmod b) := by
  rw [← Int32.toInt_inj, rem_toInt, i32t ha, i32t hb, i32t (tmodR ha hb h0)]
theorem i64rem {a b : Int} (ha : inJ a) (hb : inJ b) (h0 : b ≠ 0) : Int64.ofInt a - Int64.ofInt a / Int64.ofInt b * Int64.ofInt b = Int64.ofInt (a.tmod b) := by
  have e : Int64.ofInt a - Int64.ofInt a / Int64.ofInt b * Int64.ofInt b = Int64.ofInt a % Int64.ofInt b := by
    apply Int64.toInt_inj.mp
    have h1 := Int64.le_toInt (Int64.ofInt a % Int64.ofInt b)
    have h2 := Int64.toInt_lt (Int64.ofInt a % Int64.ofInt b)
    rw [Int64.toInt_sub, Int64.toInt_mul, Int64.toInt_div, Int.bmod_mul_bmod, Int.sub_bmod_bmod, Int.mul_comm ((Int64.ofInt a).toInt.tdiv (Int64.ofInt b).toInt), ← Int.tmod_def, ← Int64.toInt_mod]
    exact Int.bmod_eq_of_le_mul_two (by omega) (by omega)
  rw [e, ← Int64.toInt_inj, Int64.toInt_mod, i64t ha, i64t hb, i64t (tmodJ ha hb h0)]
theorem andIR (a b : Int) : inR (andI a b) := i32R _
theorem orIR (a b : Int) : inR (orI a b) := i32R _
theorem shlIR (a b : Int) : inR (shlI a b) := i32R _
theorem shrIR (a b : Int) : inR (shrI a b) := i32R _
theorem andJR (a b : Int) : inJ (andJ a b) := i64R _
theorem orJR (a b : Int) : inJ (orJ a b) := i64R _
theorem shlJR (a b : Int) : inJ (shlJ a b) := i64R _
theorem shrJR (a b : Int) : inJ (shrJ a b) := i64R _
theorem cmpJR (a b : Int) : inR (cmpJ a b) := by unfold cmpJ; repeat' split <;> constructor <;> omega
theorem cmpJv {a b : Int} (ha : inJ a) (hb : inJ b) : lg_cmp (Int64.ofInt a) (Int64.ofInt b) = Int32.ofInt (cmpJ a b) := by
  unfold lg_cmp cmpJ
  simp only [gt_iff_lt, i64lt hb ha, i64eq ha hb]
  by_cases h1 : b < a
  · rw [if_pos h1, if_neg (by omega), if_neg (by omega)]; rfl
  · by_cases h2 : a = b
    · rw [if_neg h1, if_pos h2, if_neg (by omega), if_pos h2]; rfl
    · rw [if_neg h1, if_neg h2, if_pos (by omega)]; rfl
