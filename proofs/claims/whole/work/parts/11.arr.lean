section OKA
variable {wd : WD} {d m pc pc' len : Nat} {R : AR} {L : AL} {st st' : List AV} {h : AH} {nx : AL → List AV → AH → Prop} {jp : Nat → AL → List AV → AH → Prop}
theorem celI {aT : Nat → ClassId} {ad : Nat → Nat} {k ty : Nat} (h : AH) (hb : isAb wd k ty = true) (h1 : ty ≠ 1) : (wsO wd aT ad h)[k]? = some (ad k, .inl (aT ty, (wd.2.1 k).2.2, .inl fun i => Int32.ofInt (h.2 k i))) := by
  obtain ⟨a, b, c⟩ := cel_arr (aT := aT) (ad := ad) (h := h) hb
  rw [wsO_get a, c, if_neg h1]
theorem celJ {aT : Nat → ClassId} {ad : Nat → Nat} {k : Nat} (h : AH) (hb : isAb wd k 1 = true) : (wsO wd aT ad h)[k]? = some (ad k, .inl (aT 1, (wd.2.1 k).2.2, .inr (.inl fun i => Int64.ofInt (h.2 k i)))) := by
  obtain ⟨a, b, c⟩ := cel_arr (aT := aT) (ad := ad) (h := h) hb
  rw [wsO_get a, c, if_pos rfl]
theorem cel_pA {aT : Nat → ClassId} {ad : Nat → Nat} {k i j : Nat} {z : Int} (e : j ≠ k) : cel wd aT ad (pA h k i z) j = cel wd aT ad h j := by
  have h1 : (fun q => (pA h k i z).2 j q) = fun q => h.2 j q := by
    funext q
    show (if j = k ∧ q = i then z else h.2 j q) = _
    rw [if_neg (fun x => e x.1)]
  have h2 : ∀ q, (pA h k i z).2 j q = h.2 j q := fun q => congrFun h1 q
  unfold cel
  simp only [h2]
  rfl
theorem setI {aT : Nat → ClassId} {ad : Nat → Nat} {k ty i : Nat} {z : Int} (hb : isAb wd k ty = true) (h1 : ty ≠ 1) : (wsO wd aT ad h).set k (ad k, .inl (aT ty, (wd.2.1 k).2.2, .inl (upd (fun i => Int32.ofInt (h.2 k i)) i (Int32.ofInt z)))) = wsO wd aT ad (pA h k i z) := by
  refine wsO_set ?_ (fun j e => cel_pA e)
  rw [(cel_arr hb).2.2, if_neg h1]
  congr 4
  funext q
  show Int32.ofInt (if k = k ∧ q = i then z else h.2 k q) = (if q = i then Int32.ofInt z else Int32.ofInt (h.2 k q))
  by_cases e : q = i <;> simp [e]
theorem setJ {aT : Nat → ClassId} {ad : Nat → Nat} {k i : Nat} {z : Int} (hb : isAb wd k 1 = true) : (wsO wd aT ad h).set k (ad k, .inl (aT 1, (wd.2.1 k).2.2, .inr (.inl (vp_updL (fun i => Int64.ofInt (h.2 k i)) i (Int64.ofInt z))))) = wsO wd aT ad (pA h k i z) := by
  refine wsO_set ?_ (fun j e => cel_pA e)
  rw [(cel_arr hb).2.2, if_pos rfl]
  congr 5
  funext q
  show Int64.ofInt (if k = k ∧ q = i then z else h.2 k q) = (if q = i then Int64.ofInt z else Int64.ofInt (h.2 k q))
  by_cases e : q = i <;> simp [e]
theorem okH_pA {k i : Nat} {z : Int} (hH : okH wd h) (hz : ((wd.2.1 k).2.1 = 1 → inJ z) ∧ ((wd.2.1 k).2.1 ≠ 1 → inR z)) : okH wd (pA h k i z) := by
  refine ⟨hH.1, fun a b => ?_⟩
  show ((wd.2.1 a).2.1 = 1 → inJ (if a = k ∧ b = i then z else h.2 a b)) ∧ ((wd.2.1 a).2.1 ≠ 1 → inR (if a = k ∧ b = i then z else h.2 a b))
  by_cases e : a = k ∧ b = i
  · rw [if_pos e, e.1]; exact hz
  · rw [if_neg e]; exact hH.2 a b
theorem tyA0 {aT : Nat → ClassId} : (tyA aT)[0]? = some (aT 0, .int) := rfl
theorem tyA1 {aT : Nat → ClassId} : (tyA aT)[1]? = some (aT 1, .long) := rfl
theorem tyA2 {aT : Nat → ClassId} : (tyA aT)[2]? = some (aT 2, .boolean) := rfl
theorem tyA3 {aT : Nat → ClassId} : (tyA aT)[3]? = some (aT 3, .char) := rfl
theorem isAb_ty {k ty : Nat} (hb : isAb wd k ty = true) : (wd.2.1 k).2.1 = ty := (cel_arr (aT := fun _ => (mt 0).2.2.1) (ad := id) (h := (fun _ _ => 0, fun _ _ => 0)) hb).2.1
theorem ok_iaload (hd : decode (mt m).2.1 pc = .ok (.iaload, 1)) (hn : HN wd d m (pc + 1) R nx) (hw : wpP wd R pc L st h nx jp .iaload) : At wd d m pc L st h R := by
  obtain ⟨i, k, st', e, hw⟩ := ir_spec hw
  obtain ⟨hb, ⟨i0, i1⟩, h2⟩ := ob_spec hw
  subst e
  intro p l e s mi args below meth c D aT ad A H locs ls C hP hD hS hH hL hs hlv
  have hi : inR i := hs.hd
  have hc := celI (aT := aT) (ad := ad) h hb (by decide)
  refine va_iald C.1 C.2.1 C.2.2.2.2.2.2.2.2.1 hP k 0 hc tyA0 (i32in hi i0 i1) hd ?_
  rw [i32cl hi]
  exact hn _ _ _ h2 p l e s mi args below meth c D aT ad A H locs ls C hP hD hS hH hL (hs.tl.tl.cons (v := .inl (h.2 k i.toNat)) ((hH.2 k _).2 (by rw [isAb_ty hb]; decide))) hlv
theorem ok_caload (hd : decode (mt m).2.1 pc = .ok (.caload, 1)) (hn : HN wd d m (pc + 1) R nx) (hw : wpP wd R pc L st h nx jp .caload) : At wd d m pc L st h R := by
  obtain ⟨i, k, st', e, hw⟩ := ir_spec hw
  obtain ⟨hb, ⟨i0, i1⟩, h2⟩ := ob_spec hw
  subst e
  intro p l e s mi args below meth c D aT ad A H locs ls C hP hD hS hH hL hs hlv
  have hi : inR i := hs.hd
  have hc := celI (aT := aT) (ad := ad) h hb (by decide)
  refine va_cald C.1 C.2.1 C.2.2.2.2.2.2.2.2.1 hP k 3 hc tyA3 (i32in hi i0 i1) hd ?_
  rw [i32cl hi]
  exact hn _ _ _ h2 p l e s mi args below meth c D aT ad A H locs ls C hP hD hS hH hL (hs.tl.tl.cons (v := .inl (h.2 k i.toNat)) ((hH.2 k _).2 (by rw [isAb_ty hb]; decide))) hlv
theorem ok_baload (hd : decode (mt m).2.1 pc = .ok (.baload, 1)) (hn : HN wd d m (pc + 1) R nx) (hw : wpP wd R pc L st h nx jp .baload) : At wd d m pc L st h R := by
  obtain ⟨i, k, st', e, hw⟩ := ir_spec hw
  obtain ⟨hb, ⟨i0, i1⟩, h2⟩ := ob_spec hw
  subst e
  intro p l e s mi args below meth c D aT ad A H locs ls C hP hD hS hH hL hs hlv
  have hi : inR i := hs.hd
  have hc := celI (aT := aT) (ad := ad) h hb (by decide)
  refine va_zald C.1 C.2.1 C.2.2.2.2.2.2.2.2.1 hP k 2 hc tyA2 (i32in hi i0 i1) hd ?_
  rw [i32cl hi]
  exact hn _ _ _ h2 p l e s mi args below meth c D aT ad A H locs ls C hP hD hS hH hL (hs.tl.tl.cons (v := .inl (h.2 k i.toNat)) ((hH.2 k _).2 (by rw [isAb_ty hb]; decide))) hlv
theorem ok_laload (hd : decode (mt m).2.1 pc = .ok (.laload, 1)) (hn : HN wd d m (pc + 1) R nx) (hw : wpP wd R pc L st h nx jp .laload) : At wd d m pc L st h R := by
  obtain ⟨i, k, st', e, hw⟩ := ir_spec hw
  obtain ⟨hb, ⟨i0, i1⟩, h2⟩ := ob_spec hw
  subst e
  intro p l e s mi args below meth c D aT ad A H locs ls C hP hD hS hH hL hs hlv
  have hi : inR i := hs.hd
  have hc := celJ (aT := aT) (ad := ad) h hb
  refine va_lald C.1 C.2.1 C.2.2.2.2.2.2.2.2.1 hP k 1 hc tyA1 (i32in hi i0 i1) hd ?_
  rw [i32cl hi]
  exact hn _ _ _ h2 p l e s mi args below meth c D aT ad A H locs ls C hP hD hS hH hL (hs.tl.tl.cons (v := .inr (.inl (h.2 k i.toNat))) ((hH.2 k _).1 (isAb_ty hb))) hlv
theorem ok_iastore (hd : decode (mt m).2.1 pc = .ok (.iastore, 1)) (hn : HN wd d m (pc + 1) R nx) (hw : wpP wd R pc L st h nx jp .iastore) : At wd d m pc L st h R := by
  obtain ⟨x, i, k, st', e, hw⟩ := iir_spec hw
  obtain ⟨hb, ⟨i0, i1⟩, h2⟩ := ob_spec hw
  subst e
  intro p l e s mi args below meth c D aT ad A H locs ls C hP hD hS hH hL hs hlv
  have hi : inR i := hs.tl.hd
  have hx : inR x := hs.hd
  have hc := celI (aT := aT) (ad := ad) h hb (by decide)
  refine va_iast C.1 C.2.1 C.2.2.2.2.2.2.2.2.1 hP hD hS k 0 hc tyA0 (i32in hi i0 i1) hd (fun H1 locs1 hP1 hD1 hS1 => ?_)
  rw [i32cl hi, setI hb (by decide)] at hP1 hD1
  exact hn _ _ _ h2 p l e s mi args below meth c D aT ad A H1 locs1 ls C hP1 hD1 hS1 (okH_pA hH ⟨fun q => absurd (isAb_ty hb) (by rw [q]; decide), fun _ => hx⟩) hL hs.tl.tl.tl hlv
theorem ok_lastore (hd : decode (mt m).2.1 pc = .ok (.lastore, 1)) (hn : HN wd d m (pc + 1) R nx) (hw : wpP wd R pc L st h nx jp .lastore) : At wd d m pc L st h R := by
  obtain ⟨x, i, k, st', e, hw⟩ := jir_spec hw
  obtain ⟨hb, ⟨i0, i1⟩, h2⟩ := ob_spec hw
  subst e
  intro p l e s mi args below meth c D aT ad A H locs ls C hP hD hS hH hL hs hlv
  have hi : inR i := hs.tl.hd
  have hx : inJ x := hs.hd
  have hc := celJ (aT := aT) (ad := ad) h hb
  refine va_last C.1 C.2.1 C.2.2.2.2.2.2.2.2.1 hP hD hS k 1 hc tyA1 (i32in hi i0 i1) hd (fun H1 locs1 hP1 hD1 hS1 => ?_)
  rw [i32cl hi, setJ hb] at hP1 hD1
  exact hn _ _ _ h2 p l e s mi args below meth c D aT ad A H1 locs1 ls C hP1 hD1 hS1 (okH_pA hH ⟨fun _ => hx, fun q => absurd (isAb_ty hb) q⟩) hL hs.tl.tl.tl hlv
theorem narZ {x : Int} (hx : x = 0 ∨ x = 1) : vp_nar .boolean (Int32.ofInt x) = Int32.ofInt x := by rcases hx with rfl | rfl <;> rfl
theorem narC {x : Int} (hx : 0 ≤ x ∧ x < 65536) : vp_nar .char (Int32.ofInt x) = Int32.ofInt x := by
  have e1 : Int32.ofInt x = nI x.toNat := by
    rw [← Int32.toInt_inj, i32t (by constructor <;> omega), nI_toInt (by omega)]
    omega
  rw [e1]
  unfold vp_nar
  rw [(pk_charN (q := x.toNat) (by omega)).1]
theorem ok_bastore (hd : decode (mt m).2.1 pc = .ok (.bastore, 1)) (hn : HN wd d m (pc + 1) R nx) (hw : wpP wd R pc L st h nx jp .bastore) : At wd d m pc L st h R := by
  obtain ⟨x, i, k, st', e, hw⟩ := iir_spec hw
  obtain ⟨hb, ⟨i0, i1⟩, h32⟩ := ob_spec hw
  obtain ⟨h3, h2⟩ := zok_spec h32
  subst e
  intro p l e s mi args below meth c D aT ad A H locs ls C hP hD hS hH hL hs hlv
  have hi : inR i := hs.tl.hd
  have hx : inR x := hs.hd
  have hc := celI (aT := aT) (ad := ad) h hb (by decide)
  refine va_zast C.1 C.2.1 C.2.2.2.2.2.2.2.2.1 hP hD hS k 2 hc tyA2 (i32in hi i0 i1) hd (fun H1 locs1 hP1 hD1 hS1 => ?_)
  rw [i32cl hi, narZ h3, setI hb (by decide)] at hP1 hD1
  exact hn _ _ _ h2 p l e s mi args below meth c D aT ad A H1 locs1 ls C hP1 hD1 hS1 (okH_pA hH ⟨fun q => absurd (isAb_ty hb) (by rw [q]; decide), fun _ => hx⟩) hL hs.tl.tl.tl hlv
theorem ok_castore (hd : decode (mt m).2.1 pc = .ok (.castore, 1)) (hn : HN wd d m (pc + 1) R nx) (hw : wpP wd R pc L st h nx jp .castore) : At wd d m pc L st h R := by
  obtain ⟨x, i, k, st', e, hw⟩ := iir_spec hw
  obtain ⟨hb, ⟨i0, i1⟩, h3, h2⟩ := ob_spec hw
  subst e
  intro p l e s mi args below meth c D aT ad A H locs ls C hP hD hS hH hL hs hlv
  have hi : inR i := hs.tl.hd
  have hx : inR x := hs.hd
  have hc := celI (aT := aT) (ad := ad) h hb (by decide)
  refine va_cast C.1 C.2.1 C.2.2.2.2.2.2.2.2.1 hP hD hS k 3 hc tyA3 (i32in hi i0 i1) hd (fun H1 locs1 hP1 hD1 hS1 => ?_)
  rw [i32cl hi, narC h3, setI hb (by decide)] at hP1 hD1
  exact hn _ _ _ h2 p l e s mi args below meth c D aT ad A H1 locs1 ls C hP1 hD1 hS1 (okH_pA hH ⟨fun q => absurd (isAb_ty hb) (by rw [q]; decide), fun _ => hx⟩) hL hs.tl.tl.tl hlv
end OKA
