/-! Row: its contracts -/
theorem row_all : ∀ r : Nat, r < 45 → isOb wdC r 2 = true → rfk wdC r 0 = r + 1 ∧ isAb wdC (r + 1) 0 = true ∧ isAn wdC (r + 1) = true := by decide +kernel
theorem row_lt {r : Nat} (hr : isOb wdC r 2 = true) : r < 45 := by
  simp only [isOb, Bool.and_eq_true, Nat.blt_eq] at hr
  exact hr.1
theorem row_f {r : Nat} (hr : isOb wdC r 2 = true) : rfk wdC r 0 = r + 1 ∧ isAb wdC (r + 1) 0 = true ∧ isAn wdC (r + 1) = true := row_all r (row_lt hr) hr
/-- the number at a place -/
def rgt (h : AH) (r : Nat) (x : Int) : Int := if 0 ≤ x ∧ x < gS h r 1 ∧ x < alen wdC (r + 1) then gA h (r + 1) x else 0
theorem c_get {d r : Nat} {x : Int} {h : AH} {R : AR} (hr : isOb wdC r 2 = true) (k : R (some (vI (rgt h r x))) h) : Call wdC d mX3_get [vR r, vI x] h R := by
  obtain ⟨h1, h2, h3⟩ := row_f hr
  refine Call.of (by decide) (Nat.le_of_ble_eq_true rfl) (sX3_get ?_)
  rw [h1]
  refine ⟨fun c => ?_, fun c => ob_in hr ⟨fun c2 => ?_, fun c2 => ob_in hr (ob_in h3 ⟨fun c3 => ?_, fun c3 => ob_in hr (ob_in h2 ⟨by omega, ?_⟩)⟩)⟩⟩
  · rwa [rgt, if_neg (by omega)] at k
  · rwa [rgt, if_neg (by omega)] at k
  · rwa [rgt, if_neg (by omega)] at k
  · rwa [rgt, if_pos (by omega)] at k
theorem c_size {d r : Nat} {h : AH} {R : AR} (hr : isOb wdC r 2 = true) (k : R (some (vI (gS h r 1))) h) : Call wdC d mX3_size [vR r] h R :=
  Call.of (by decide) (Nat.le_of_ble_eq_true rfl) (sX3_size (ob_in hr k))
/-- behind add -/
def addR (h : AH) (r : Nat) (x : Int) : AH := if 0 ≤ gS h r 1 ∧ gS h r 1 < alen wdC (r + 1) then pS (pA h (r + 1) (gS h r 1).toNat x) r 1 (gS h r 1 + 1) else h
theorem cap_R (r : Nat) (hr : isOb wdC r 2 = true) : alen wdC (r + 1) ≤ 2147483647 := by
  have := (row_f hr).2.2
  simp only [isAn, Bool.and_eq_true, Nat.ble_eq] at this
  show (((wdC.2.1 (r + 1)).2.2 : Nat) : Int) ≤ 2147483647
  omega
theorem c_add {d r : Nat} {x : Int} {h : AH} {R : AR} (hr : isOb wdC r 2 = true) (k : R none (addR h r x)) : Call wdC d mX3_add [vR r, vI x] h R := by
  obtain ⟨h1, h2, h3⟩ := row_f hr
  have hc := cap_R r hr
  refine Call.of (by decide) (Nat.le_of_ble_eq_true rfl) (sX3_add ?_)
  rw [h1]
  refine ob_in hr ⟨fun c => ?_, fun c => ob_in hr (ob_in hr (ob_in h3 ⟨fun c2 => ?_, fun c2 => ob_in hr (ob_in hr (ob_in h2 ⟨by omega, ob_in hr ⟨by constructor <;> omega, ob_in hr ?_⟩⟩))⟩))⟩
  · rwa [addR, if_neg (by omega)] at k
  · rwa [addR, if_neg (by omega)] at k
  · rwa [addR, if_pos (by omega)] at k
