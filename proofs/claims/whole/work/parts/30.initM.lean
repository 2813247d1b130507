/-! the reference's constructor: its rows are made one behind another -/
def tyM (i : Nat) : Nat := (wdM.2.1 i).2.1
def lenM (i : Nat) : Nat := (wdM.2.1 i).2.2
def tyF : Nat → FieldType
  | 0 => .int
  | 1 => .long
  | 2 => .boolean
  | _ => .char
def atF : Nat → ArrayType
  | 0 => .int
  | 1 => .long
  | 2 => .boolean
  | _ => .char
def nmF : Nat → String
  | 0 => "[I"
  | 1 => "[J"
  | 2 => "[Z"
  | _ => "[C"
/-- the array classes of a state -/
def aTs (s : State) (t : Nat) : ClassId := (s.vm.findClass (nmF t)).getD 0
def zA (t n : Nat) : vp_A := (n, if t = 1 then .inr (.inl fun _ => 0) else .inl fun _ => 0)
def fvK (ad : Nat → Nat) (sc : Nat → Int) (k : Nat) : List Value := (List.range 56).map fun j => bif isRf 7 j then (if rfk wdM 0 j ≤ k then .ref (ad (rfk wdM 0 j)) else .null) else .int (Int32.ofInt (sc j))
def wsK (aT : Nat → ClassId) (ad : Nat → Nat) (sc : Nat → Int) (k : Nat) : va_W := (ad 0, .inr (7, fvK ad sc k)) :: (List.range k).map fun i => (ad (i + 1), .inl (aT (tyM (i + 1)), zA (tyM (i + 1)) (lenM (i + 1))))
def tysK (aT : Nat → ClassId) (k : Nat) : List (ClassId × FieldType) := (List.range k).map fun i => (aT (tyM (i + 1)), tyF (tyM (i + 1)))
theorem aTs_of {s : State} {cA : ClassId} {t : Nat} (h : va_RA s cA (tyF t)) : cA = aTs s t := by
  unfold aTs
  match t, h with
  | 0, h => rw [show nmF 0 = "[I" from rfl, va_nm_int h]; rfl
  | 1, h => rw [show nmF 1 = "[J" from rfl, va_nm_long h]; rfl
  | 2, h => rw [show nmF 2 = "[Z" from rfl, va_nm_boolean h]; rfl
  | _ + 3, h => rw [show nmF (_ + 3) = "[C" from rfl, va_nm_char h]; rfl
theorem zA_ok (cA : ClassId) (t n : Nat) : vp_cell cA (zA t n) = arrV cA n (fun _ => defaultValue (tyF t)) := by
  match t with
  | 0 => rfl
  | 1 => rfl
  | 2 => rfl
  | _ + 3 => rfl
theorem atF_ok (t : Nat) : newarray.typeOf (atF t) = tyF t := by
  match t with
  | 0 => rfl
  | 1 => rfl
  | 2 => rfl
  | _ + 3 => rfl
/-- a step of the constructor: (0, pc, bytes of the push, length, kind, pool entry, slot, place of the word) makes a row; (1, pc, 0, 0, 0, pool entry, slot, place) puts -1 -/
abbrev NE : Type := Nat × Nat × Nat × Nat × Nat × Nat × Nat × Nat
def cIM : ByteArray := cX8_init
def ckN1 (k pc : Nat) (e : NE) : Bool := match e with
  | (0, p, ln, N, t, idx, sl, w) => p == pc && (decide (decode cIM pc = .ok (.aload_n 0, 1)) && ((if ln = 3 then decide (decode cIM (pc + 1) = .ok (.sipush (N : Int), 3)) else ln == 2 && decide (decode cIM (pc + 1) = .ok (.bipush (N : Int), 2))) && (decide (decode cIM (pc + 1 + ln) = .ok (.newarray (atF t), 2)) && (decide (decode cIM (pc + 3 + ln) = .ok (.putfield idx, 3)) &&
      (decide (tg w = some (wF RX8 idx 7 sl)) && (Nat.blt sl 56 && ((fT 7 sl).2.2.2 && (decide ((fT 7 sl).1 = RX8) && (decide (parseFieldDescriptor (fT 7 sl).2.2.1 = some (.array (tyF t))) && (tyM (k + 1) == t && (lenM (k + 1) == N && (Nat.blt N 32768 && (Nat.ble t 3 && (List.range 56).all (fun j => !isRf 7 j || ((rfk wdM 0 j == k + 1) == (j == sl))))))))))))))))
  | (_, p, _, _, _, idx, sl, w) => p == pc && (decide (decode cIM pc = .ok (.aload_n 0, 1)) && (decide (decode cIM (pc + 1) = .ok (.iconst (-1), 1)) && (decide (decode cIM (pc + 2) = .ok (.putfield idx, 3)) && (decide (tg w = some (wF RX8 idx 7 sl)) && (Nat.blt sl 56 && (!(fT 7 sl).2.2.2 && (!isRf 7 sl && decide ((fT 7 sl).2.2.1 = "I"))))))))
def ckN : Nat → Nat → List NE → Bool
  | _, _, [] => true
  | k, pc, e :: es => ckN1 k pc e && (match e with
    | (0, _, ln, _, _, _, _, _) => ckN (k + 1) (pc + 6 + ln) es
    | _ => ckN k (pc + 5) es)
/-- where, and with what, the steps end -/
def enN : Nat → Nat → (Nat → Int) → Nat → Nat → List NE → Nat × Nat × (Nat → Int) × Nat × Nat
  | k, pc, sc, c, z, [] => (k, pc, sc, c, z)
  | k, pc, sc, c, z, (0, _, ln, N, _, _, _, _) :: es => enN (k + 1) (pc + 6 + ln) sc (c + 1) (z + N) es
  | k, pc, sc, c, z, (_ + 1, _, _, _, _, _, sl, _) :: es => enN k (pc + 5) (fun j => if j = sl then -1 else sc j) c z es
def enM : List NE := [(0, 4, 3, 1040, 0, 7, 1, 5121), (0, 13, 3, 1024, 0, 13, 3, 5123), (1, 22, 0, 0, 0, 16, 5, 5125), (0, 27, 2, 8, 0, 20, 7, 5127),
  (0, 35, 3, 248, 0, 23, 8, 5128), (0, 44, 3, 200, 0, 26, 10, 5130), (0, 53, 3, 8000, 0, 29, 11, 5131), (0, 62, 3, 133, 1, 32, 12, 5132),
  (0, 71, 3, 133, 1, 36, 13, 5133), (0, 80, 3, 133, 0, 39, 14, 5134), (0, 89, 3, 133, 0, 42, 15, 5135), (0, 98, 3, 1100, 0, 45, 17, 5137),
  (0, 107, 3, 1100, 0, 48, 18, 5138), (0, 116, 3, 1100, 0, 51, 19, 5139), (0, 125, 3, 1100, 0, 54, 20, 5140), (0, 134, 3, 1100, 2, 57, 21, 5141),
  (0, 143, 3, 1100, 0, 61, 22, 5142), (0, 152, 3, 1100, 1, 64, 23, 5143), (0, 161, 3, 1100, 0, 67, 24, 5144), (0, 170, 3, 1100, 0, 70, 25, 5145),
  (0, 179, 3, 1100, 0, 73, 26, 5146), (0, 188, 3, 1100, 0, 76, 27, 5147), (0, 197, 3, 2200, 0, 79, 28, 5148), (0, 206, 3, 2200, 0, 82, 29, 5149),
  (0, 215, 3, 2200, 0, 85, 30, 5150), (0, 224, 3, 2200, 0, 88, 31, 5151), (0, 233, 2, 64, 0, 91, 36, 5156), (0, 241, 2, 64, 0, 94, 37, 5157),
  (0, 249, 2, 64, 0, 97, 38, 5158), (0, 257, 2, 64, 0, 100, 39, 5159), (0, 265, 2, 64, 0, 103, 40, 5160), (0, 273, 3, 4200, 0, 106, 42, 5162),
  (0, 282, 3, 4200, 0, 109, 43, 5163), (0, 291, 3, 4200, 0, 112, 44, 5164), (0, 300, 3, 4200, 0, 115, 46, 5166), (0, 309, 3, 4200, 0, 118, 48, 5168),
  (0, 318, 3, 4200, 0, 121, 51, 5171), (0, 327, 3, 4200, 0, 124, 52, 5172), (0, 336, 3, 20000, 3, 127, 54, 5174)]
set_option maxRecDepth 100000 in
theorem enM_ok : ckN 0 4 enM = true := by decide +kernel
