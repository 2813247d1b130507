/-! characters: what both sides ask of them -/
abbrev isL (c : Int) : Prop := (65 ≤ c ∧ c ≤ 90) ∨ (97 ≤ c ∧ c ≤ 122)
abbrev isD (c : Int) : Prop := 48 ≤ c ∧ c ≤ 57
abbrev isW (c : Int) : Prop := isL c ∨ isD c ∨ c = 95 ∨ c = 46
def upc (c : Int) : Int := if 97 ≤ c ∧ c ≤ 122 then c - 32 else c
def bi (p : Prop) [Decidable p] : Int := if p then 1 else 0
theorem bi_1 {p : Prop} [Decidable p] (h : p) : bi p = 1 := if_pos h
theorem bi_0 {p : Prop} [Decidable p] (h : ¬ p) : bi p = 0 := if_neg h
theorem bi_ne {p : Prop} [Decidable p] : bi p ≠ 0 ↔ p := by unfold bi; split <;> simp_all
theorem bi_eq {p : Prop} [Decidable p] : bi p = 0 ↔ ¬ p := by unfold bi; split <;> simp_all
theorem bi_zo {p : Prop} [Decidable p] : bi p = 0 ∨ bi p = 1 := by unfold bi; split <;> simp
section CHR
variable {d : Nat} {x : Int} {h : AH} {R : AR}
theorem cC_isDigit (k : R (some (vI (bi (isD x)))) h) : Call wdC d mX7_isDigit [vI x] h R := by
  refine Call.of (by decide) (Nat.le_of_ble_eq_true rfl) (sX7_isDigit ?_)
  repeat' (first | apply And.intro | intro _)
  all_goals (unfold bi at k; split at k <;> first | exact k | (exfalso; omega))
theorem cC_isLetter (k : R (some (vI (bi (isL x)))) h) : Call wdC d mX7_isLetter [vI x] h R := by
  refine Call.of (by decide) (Nat.le_of_ble_eq_true rfl) (sX7_isLetter ?_)
  repeat' (first | apply And.intro | intro _)
  all_goals (unfold bi at k; split at k <;> first | exact k | (exfalso; omega))
theorem cC_isWordPart (k : R (some (vI (bi (isW x)))) h) : Call wdC d mX7_isWordPart [vI x] h R := by
  refine Call.of (by decide) (Nat.le_of_ble_eq_true rfl) (sX7_isWordPart ?_)
  repeat' (first | apply And.intro | intro _)
  all_goals (unfold bi at k; split at k <;> first | exact k | (exfalso; omega))
theorem cC_capital (hx : inR x) (k : R (some (vI (upc x))) h) : Call wdC d mX7_capital [vI x] h R := by
  refine Call.of (by decide) (Nat.le_of_ble_eq_true rfl) (sX7_capital ?_)
  repeat' (first | apply And.intro | intro _)
  all_goals (first | omega | (unfold upc at k; split at k <;> first | exact k | (exfalso; omega)))
theorem cM_great (k : R (some (vI (upc x))) h) : Call wdM d mX8_great [vI x] h R := by
  refine Call.of (by decide) (Nat.le_of_ble_eq_true rfl) (sX8_great ?_)
  repeat' (first | apply And.intro | intro _)
  all_goals (first | omega | (unfold upc at k; split at k <;> first | exact k | (exfalso; omega)))
theorem cM_isDigit (k : R (some (vI (bi (isD x)))) h) : Call wdM d mX8_isDigit [vI x] h R := by
  refine Call.of (by decide) (Nat.le_of_ble_eq_true rfl) (sX8_isDigit ?_)
  repeat' (first | apply And.intro | intro _)
  all_goals (unfold bi at k; split at k <;> first | exact k | (exfalso; omega))
theorem upc_L : 65 ≤ upc x ∧ upc x ≤ 90 ↔ isL x := by unfold upc; split <;> constructor <;> intro h <;> omega
theorem cM_isLetter (k : R (some (vI (bi (isL x)))) h) : Call wdM (d + 1) mX8_isLetter [vI x] h R := by
  have hu := upc_L (x := x)
  refine Call.of (by decide) (Nat.le_of_ble_eq_true rfl) (sX8_isLetter (cM_great ⟨fun c => ?_, fun c => cM_great ⟨fun c2 => ?_, fun c2 => ?_⟩⟩))
  · rwa [bi_0 (fun q => by have := hu.mpr q; omega)] at k
  · rwa [bi_0 (fun q => by have := hu.mpr q; omega)] at k
  · rwa [bi_1 (hu.mp (by omega))] at k
theorem cM_isWordPart (k : R (some (vI (bi (isW x)))) h) : Call wdM (d + 1 + 1) mX8_isWordPart [vI x] h R := by
  refine Call.of (by decide) (Nat.le_of_ble_eq_true rfl) (sX8_isWordPart (cM_isLetter ⟨fun c => ?_, fun c => ?_⟩))
  · rwa [bi_1 (Or.inl (bi_ne.mp c))] at k
  · have n1 : ¬ isL x := fun q => c (by rw [bi_1 q]; decide)
    refine cM_isDigit ⟨fun c2 => ?_, fun c2 => ?_⟩
    · rwa [bi_1 (Or.inr (Or.inl (bi_ne.mp c2)))] at k
    · have n2 : ¬ isD x := fun q => c2 (by rw [bi_1 q]; decide)
      repeat' (first | apply And.intro | intro _)
      all_goals (unfold bi at k; split at k <;> first | exact k | (exfalso; omega))
end CHR
