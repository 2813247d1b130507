/-! the rest: constants, the list of functions, lengths -/
section OKM
variable {wd : WD} {d m pc pc' len : Nat} {R : AR} {L : AL} {st st' : List AV} {h : AH} {nx : AL → List AV → AH → Prop} {jp : Nat → AL → List AV → AH → Prop} {call : Nat → List AV → AH → AR → Prop} {idx x y w : Nat} {z : Int}
theorem ofNat32 (n : Nat) : Int32.ofNat n = Int32.ofInt (n : Int) := rfl
theorem ok_flen (hd : decode (mt m).2.1 pc = .ok (.arraylength, 1)) (hn : HN wd d m (pc + 1) R nx) (hw : wpX wd call R L st h nx (13, idx, x, y, w, z)) : At wd d m pc L st h R := by
  obtain ⟨k, st', e, hw9⟩ := r1_spec hw
  obtain ⟨hq, h2⟩ := ob_spec hw9
  have hk : k = 3000 := Nat.eq_of_beq_eq_true hq
  subst hk
  subst e
  intro p l e s mi args below meth c D aT ad A H locs ls C hP hD hS hH hL hs hlv
  obtain ⟨hx, hb, hr, hml, hown, hts, hlk, hA, hK, hSt⟩ := id C
  exact va_tlen hx hb hSt.2.2.2.1 hS (v := Int32.ofInt 133) rfl hd (hn _ _ _ h2 p l e s mi args below meth c D aT ad A H locs ls C hP hD hS hH hL (hs.tl.cons (v := .inl 133) (by constructor <;> omega)) hlv)
theorem ok_arraylength (hd : decode (mt m).2.1 pc = .ok (.arraylength, 1)) (hn : HN wd d m (pc + 1) R nx) (hw : wpP wd R pc L st h nx jp .arraylength) : At wd d m pc L st h R := by
  obtain ⟨k, st', e, hw9⟩ := r1_spec hw
  obtain ⟨hq, h2⟩ := ob_spec hw9
  subst e
  intro p l e s mi args below meth c D aT ad A H locs ls C hP hD hS hH hL hs hlv
  obtain ⟨hx, hb, hr, hml, hown, hts, hlk, hA, hK, hSt⟩ := id C
  simp only [isAn, Bool.and_eq_true, beq_iff_eq, Nat.blt_eq, Nat.ble_eq] at hq
  obtain ⟨q1, q2, q3, q4⟩ := hq
  have hab : isAb wd k (wd.2.1 k).2.1 = true := by simp [isAb, q1, q2]
  obtain ⟨-, -, hc⟩ := cel_arr (aT := aT) (ad := ad) (h := h) hab
  have he := wsO_get (aT := aT) (ad := ad) (h := h) q1
  rw [hc] at he
  have kk := hn _ _ _ h2 p l e s mi args below meth c D aT ad A H locs ls C hP hD hS hH hL (hs.tl.cons (v := .inl (alen wd k)) (by show inR (((wd.2.1 k).2.2 : Nat) : Int); constructor <;> omega)) hlv
  match ht : (wd.2.1 k).2.1, q3 with
  | 0, _ => rw [ht] at he; exact va_alen hx hb hK hP k 0 he tyA0 (v := Int32.ofInt (alen wd k)) rfl hd kk
  | 1, _ => rw [ht] at he; exact va_alen hx hb hK hP k 1 he tyA1 (v := Int32.ofInt (alen wd k)) rfl hd kk
  | 2, _ => rw [ht] at he; exact va_alen hx hb hK hP k 2 he tyA2 (v := Int32.ofInt (alen wd k)) rfl hd kk
  | 3, _ => rw [ht] at he; exact va_alen hx hb hK hP k 3 he tyA3 (v := Int32.ofInt (alen wd k)) rfl hd kk
theorem ok_aaload (hd : decode (mt m).2.1 pc = .ok (.aaload, 1)) (hn : HN wd d m (pc + 1) R nx) (hw : wpP wd R pc L st h nx jp .aaload) : At wd d m pc L st h R := by
  obtain ⟨i, k, st', e, hw⟩ := ir_spec hw
  obtain ⟨hq, ⟨i0, i1⟩, h2⟩ := ob_spec hw
  have hk : k = 3000 := Nat.eq_of_beq_eq_true hq
  subst hk
  subst e
  intro p l e s mi args below meth c D aT ad A H locs ls C hP hD hS hH hL hs hlv
  have hi : inR i := hs.hd
  obtain ⟨hx, hb, hr, hml, hown, hts, hlk, hA, hK, hSt⟩ := id C
  exact vb_tq hx hb hSt.2.2.2.1 hS (i32in hi i0 i1) (v := .ref (ad (2000 + i.toNat))) (by rw [i32cl hi]) hd (hn _ _ _ h2 p l e s mi args below meth c D aT ad A H locs ls C hP hD hS hH hL (hs.tl.tl.cons (v := .inr (.inr (2000 + i.toNat))) trivial) hlv)
theorem ok_ldc2 (hc : tg w = some (.constantLong (mt m).1.cls idx (Int64.ofInt z))) (hz : inJ z) (hd : decode (mt m).2.1 pc = .ok (.ldc2_w idx, 3)) (hn : HN wd d m (pc + 3) R nx) (hw : wpX wd call R L st h nx (5, idx, x, y, w, z)) : At wd d m pc L st h R := by
  intro p l e s mi args below meth c D aT ad A H locs ls C hP hD hS hH hL hs hlv
  exact lv_ldc2 C.1 C.2.1 C.2.2.2.2.1 (C.tb _ (tb_in hc rfl)) hd (hn _ _ _ hw p l e s mi args below meth c D aT ad A H locs ls C hP hD hS hH hL (hs.cons (v := .inr (.inl z)) hz) hlv)
theorem ok_ldcI {pc2 : Nat} (hc : tg w = some (.constant (mt m).1.cls idx (Int32.ofInt z))) (hz : inR z) (hd : (decode (mt m).2.1 pc = .ok (.ldc idx, 2) ∧ pc2 = pc + 2) ∨ (decode (mt m).2.1 pc = .ok (.ldc_w idx, 3) ∧ pc2 = pc + 3)) (hn : HN wd d m pc2 R nx) (hw : wpX wd call R L st h nx (6, idx, x, y, w, z)) : At wd d m pc L st h R := by
  intro p l e s mi args below meth c D aT ad A H locs ls C hP hD hS hH hL hs hlv
  have kk := hn _ _ _ hw p l e s mi args below meth c D aT ad A H locs ls C hP hD hS hH hL (hs.cons (v := .inl z) hz) hlv
  rcases hd with ⟨hd, rfl⟩ | ⟨hd, rfl⟩
  · exact lv_ldc C.1 C.2.1 C.2.2.2.2.1 (C.tb _ (tb_in hc rfl)) hd kk
  · exact lv_ldcw C.1 C.2.1 C.2.2.2.2.1 (C.tb _ (tb_in hc rfl)) hd kk
theorem ok_ldcS (hx1 : x < 175) (hc : (strs.getD x stD).1 = (mt m).1.cls) (hi : (strs.getD x stD).2.1 = idx) (hd : decode (mt m).2.1 pc = .ok (.ldc idx, 2)) (hn : HN wd d m (pc + 2) R nx) (hw : wpX wd call R L st h nx (7, idx, x, y, w, z)) : At wd d m pc L st h R := by
  intro p l e s mi args below meth c D aT ad A H locs ls C hP hD hS hH hL hs hlv
  obtain ⟨av, a1, -⟩ := C.2.2.2.2.2.2.2.2.2.1 x hx1
  rw [hc, hi] at a1
  exact va_ldcS C.1 C.2.1 C.2.2.2.2.1 a1 hd (hn _ _ _ hw p l e s mi args below meth c D aT ad A H locs ls C hP hD hS hH hL (hs.cons (v := .inr (.inr (1000 + x))) trivial) hlv)
def wFUN (own : String) (idx : Nat) : Cond := .fieldLink own idx "FormulaCode" "FUNCTIONS" "[LFormulaCode$Function;"
def wFUNn (own : String) (idx : Nat) : Cond := .fieldLinkNest own idx "FormulaCode" "FUNCTIONS" "[LFormulaCode$Function;" "FormulaCode"
theorem ok_getF (hc : tg w = some (wFUN (mt m).1.cls idx) ∨ tg w = some (wFUNn (mt m).1.cls idx)) (hd : decode (mt m).2.1 pc = .ok (.getstatic idx, 3)) (hn : HN wd d m (pc + 3) R nx) (hw : wpX wd call R L st h nx (8, idx, x, y, w, z)) : At wd d m pc L st h R := by
  intro p l e s mi args below meth c D aT ad A H locs ls C hP hD hS hH hL hs hlv
  have kk := hn _ _ _ hw p l e s mi args below meth c D aT ad A H locs ls C hP hD hS hH hL (hs.cons (v := .inr (.inr 3000)) trivial) hlv
  rcases hc with hc | hc
  · exact va_gets C.1 C.2.1 C.2.2.2.2.2.2.2.2.2.2.2.1 hS C.2.2.2.2.1 (C.tb _ (tb_in hc rfl)) (fun _ q => q) hd kk
  · exact va_getsN C.1 C.2.1 C.2.2.2.2.2.2.2.2.2.2.2.1 hS C.2.2.2.2.1 (va_Nw.use rfl (C.nst _ (nst_in hc rfl))) (fun _ q => q) hd kk
def wGR (own : String) (idx : Nat) : Cond := .fieldLinkNest own idx "FormulaCode$Function" "great" "Ljava/lang/String;" "FormulaCode"
theorem ok_getG (hc : tg w = some (wGR (mt m).1.cls idx)) (hd : decode (mt m).2.1 pc = .ok (.getfield idx, 3)) (hn : HN wd d m (pc + 3) R nx) (hw : wpX wd call R L st h nx (10, idx, x, y, w, z)) : At wd d m pc L st h R := by
  obtain ⟨k, st', e, hw9⟩ := r1_spec hw
  obtain ⟨hq, h2⟩ := ob_spec hw9
  subst e
  simp only [isEn, Bool.and_eq_true, Nat.ble_eq, Nat.blt_eq] at hq
  intro p l e s mi args below meth c D aT ad A H locs ls C hP hD hS hH hL hs hlv
  have h3 := (C.2.2.2.2.2.2.2.2.2.2.1 (k - 2000) (by omega)).2.1
  rw [show 2000 + (k - 2000) = k by omega] at h3
  obtain ⟨cf, kk, fi, f, cell, g1, g2, g3, g4, g5, g6⟩ := h3.kept hS.2.1
  exact va_Wgetf C.1 C.2.1 C.2.2.2.2.1 (va_Nw.use rfl (C.nst _ (nst_in hc rfl))) g1 g2 g3 g4 (v := .ref (ad (1000 + efS (k - 2000)))) g5 rfl rfl hd (hn _ _ _ h2 p l e s mi args below meth c D aT ad A H locs ls C hP hD hS hH hL (hs.tl.cons (v := .inr (.inr (1000 + efS (k - 2000)))) trivial) hlv)
end OKM
