section OKC
variable {wd : WD} {d m pc pc' len : Nat} {R : AR} {L : AL} {st st' : List AV} {h : AH} {nx : AL → List AV → AH → Prop} {jp : Nat → AL → List AV → AH → Prop}
abbrev HJ (wd : WD) (d m : Nat) (R : AR) (jp : Nat → AL → List AV → AH → Prop) : Prop := ∀ t L' st' h', jp t L' st' h' → At wd d m t L' st' h' R
theorem toNat_of {pc : Nat} {o : Int} (h : 0 ≤ (pc : Int) + o) : (pc : Int) + o = ((((pc : Int) + o).toNat : Nat) : Int) := by omega
theorem ok_goto {o : Int} (hd : decode (mt m).2.1 pc = .ok (.goto o, 3)) (h0 : 0 ≤ (pc : Int) + o) (hj : HJ wd d m R jp) (hw : wpP wd R pc L st h nx jp (.goto o)) : At wd d m pc L st h R :=
  At.go (st' := st) (fun p l e s mi args below meth c ad H locs ls Q hx hb hs hL hlv kk => lv_goto hx hb hd (toNat_of h0) kk) (fun hs _ => hs) (hj _ _ _ _ hw)
theorem ok_if_icmp {cc : ClassFile.Cond} {o : Int} (hd : decode (mt m).2.1 pc = .ok (.if_icmp cc o, 3)) (h0 : 0 ≤ (pc : Int) + o) (hn : HN wd d m (pc + 3) R nx) (hj : HJ wd d m R jp) (hw : wpP wd R pc L st h nx jp (.if_icmp cc o)) : At wd d m pc L st h R := by
  obtain ⟨a, b, st', e, h1, h2⟩ := p2_spec hw
  subst e
  intro p l e s mi args below meth c D aT ad A H locs ls C hP hD hS hH hL hs hlv
  have hb : inR b := hs.hd
  have ha : inR a := hs.tl.hd
  have kt := fun q => hj _ _ _ _ (h1 q) p l e s mi args below meth c D aT ad A H locs ls C hP hD hS hH hL hs.tl.tl hlv
  have kf := fun q => hn _ _ _ (h2 q) p l e s mi args below meth c D aT ad A H locs ls C hP hD hS hH hL hs.tl.tl hlv
  cases cc with
  | eq => exact lv_icmp_eq C.1 C.2.1 hd (toNat_of h0) (fun q => kt ((i32eq ha hb).mp q)) (fun q => kf (fun z => q ((i32eq ha hb).mpr z)))
  | ne => exact lv_icmp_ne C.1 C.2.1 hd (toNat_of h0) (fun q => kt (fun z => q ((i32eq ha hb).mpr z))) (fun q => kf (fun z => z ((i32eq ha hb).mp q)))
  | lt => exact lv_icmp_lt C.1 C.2.1 hd (toNat_of h0) (fun q => kt ((i32lt ha hb).mp q)) (fun q => kf (fun z => q ((i32lt ha hb).mpr z)))
  | ge => exact lv_icmp_ge C.1 C.2.1 hd (toNat_of h0) (fun q => kt ((i32le hb ha).mp q)) (fun q => kf (fun z => q ((i32le hb ha).mpr z)))
  | gt => exact lv_icmp_gt C.1 C.2.1 hd (toNat_of h0) (fun q => kt ((i32lt hb ha).mp q)) (fun q => kf (fun z => q ((i32lt hb ha).mpr z)))
  | le => exact lv_icmp_le C.1 C.2.1 hd (toNat_of h0) (fun q => kt ((i32le ha hb).mp q)) (fun q => kf (fun z => q ((i32le ha hb).mpr z)))
theorem ok_ifCond {cc : ClassFile.Cond} {o : Int} (hd : decode (mt m).2.1 pc = .ok (.ifCond cc o, 3)) (h0 : 0 ≤ (pc : Int) + o) (hn : HN wd d m (pc + 3) R nx) (hj : HJ wd d m R jp) (hw : wpP wd R pc L st h nx jp (.ifCond cc o)) : At wd d m pc L st h R := by
  obtain ⟨a, st', e, h1, h2⟩ := p1_spec hw
  subst e
  intro p l e s mi args below meth c D aT ad A H locs ls C hP hD hS hH hL hs hlv
  have ha : inR a := hs.hd
  have hb := inR0
  have kt := fun q => hj _ _ _ _ (h1 q) p l e s mi args below meth c D aT ad A H locs ls C hP hD hS hH hL hs.tl hlv
  have kf := fun q => hn _ _ _ (h2 q) p l e s mi args below meth c D aT ad A H locs ls C hP hD hS hH hL hs.tl hlv
  cases cc with
  | eq => exact lv_if_eq C.1 C.2.1 hd (toNat_of h0) (fun q => kt ((i32eq ha hb).mp q)) (fun q => kf (fun z => q ((i32eq ha hb).mpr z)))
  | ne => exact lv_if_ne C.1 C.2.1 hd (toNat_of h0) (fun q => kt (fun z => q ((i32eq ha hb).mpr z))) (fun q => kf (fun z => z ((i32eq ha hb).mp q)))
  | lt => exact lv_if_lt C.1 C.2.1 hd (toNat_of h0) (fun q => kt ((i32lt ha hb).mp q)) (fun q => kf (fun z => q ((i32lt ha hb).mpr z)))
  | ge => exact lv_if_ge C.1 C.2.1 hd (toNat_of h0) (fun q => kt ((i32le hb ha).mp q)) (fun q => kf (fun z => q ((i32le hb ha).mpr z)))
  | gt => exact lv_if_gt C.1 C.2.1 hd (toNat_of h0) (fun q => kt ((i32lt hb ha).mp q)) (fun q => kf (fun z => q ((i32lt hb ha).mpr z)))
  | le => exact lv_if_le C.1 C.2.1 hd (toNat_of h0) (fun q => kt ((i32le ha hb).mp q)) (fun q => kf (fun z => q ((i32le ha hb).mpr z)))
theorem swT_at {pc : Nat} {z : Int} {f : Nat → Prop} : ∀ (os : List Int) (k : Int), swT pc z f k os → ∀ j : Nat, z = k + (j : Int) → ∀ o, os[j]? = some o → f ((pc : Int) + o).toNat
  | [], _, _, j, _, o, h => by simp at h
  | q :: os, k, ⟨h1, h2⟩, 0, e, o, h => by
    cases h
    exact h1 (by omega)
  | q :: os, k, ⟨h1, h2⟩, j + 1, e, o, h => swT_at os (k + 1) h2 j (by omega) o h
theorem ok_tableswitch {dt lo hi : Int} {os : Array Int} (hd : decode (mt m).2.1 pc = .ok (.tableswitch dt lo hi os, len)) (h0 : 0 ≤ (pc : Int) + dt) (h1 : ∀ o ∈ os.toList, 0 ≤ (pc : Int) + o) (hl : hi - lo < (os.toList.length : Int)) (hj : HJ wd d m R jp) (hw : wpP wd R pc L st h nx jp (.tableswitch dt lo hi os)) : At wd d m pc L st h R := by
  obtain ⟨z, st', e, hw1, hw2⟩ := p1_spec hw
  subst e
  intro p l e s mi args below meth c D aT ad A H locs ls C hP hD hS hH hL hs hlv
  have hz : inR z := hs.hd
  have et := i32t hz
  by_cases c1 : z < lo ∨ hi < z
  · exact lv_tableOut C.1 C.2.1 hd (by rw [et]; exact c1) (toNat_of h0) (hj _ _ _ _ (hw1 c1) p l e s mi args below meth c D aT ad A H locs ls C hP hD hS hH hL hs.tl hlv)
  · have hlt : (z - lo).toNat < os.toList.length := by omega
    obtain ⟨o, ho⟩ : ∃ o, os.toList[(z - lo).toNat]? = some o := ⟨_, List.getElem?_eq_getElem hlt⟩
    have hm : o ∈ os.toList := List.mem_of_getElem? ho
    exact lv_tableIn C.1 C.2.1 hd (by rw [et]; omega) (by rw [et]; omega) (off := o) (by rw [et, ← Array.getElem?_toList]; exact ho) (toNat_of (h1 o hm)) (hj _ _ _ _ (swT_at os.toList lo hw2 (z - lo).toNat (by omega) o ho) p l e s mi args below meth c D aT ad A H locs ls C hP hD hS hH hL hs.tl hlv)
theorem swL_at {pc : Nat} {z dt : Int} {f : Nat → Prop} : ∀ ps : List (Int × Int), swL pc z f dt ps → f ((pc : Int) + Op.lookupswitch.offset ps dt z).toNat
  | [], h => h
  | q :: ps, ⟨h1, h2⟩ => by
    by_cases e : z = q.1
    · have := h1 e
      simp only [Op.lookupswitch.offset, e] at *
      simpa using this
    · have := swL_at ps (h2 e)
      simp only [Op.lookupswitch.offset] at *
      first
        | (rw [if_neg (by simpa using Ne.symm e)]; exact this)
        | (rw [if_neg (by simpa using e)]; exact this)
        | (simpa [List.find?, Ne.symm e, e] using this)
theorem ok_lookupswitch {dt : Int} {ps : Array (Int × Int)} (hd : decode (mt m).2.1 pc = .ok (.lookupswitch dt ps, len)) (hp : (ps.toList.zip (ps.toList.drop 1)).all (fun (a, next) => a.1 < next.1) = true) (h0 : ∀ z : Int, 0 ≤ (pc : Int) + Op.lookupswitch.offset ps.toList dt z) (hj : HJ wd d m R jp) (hw : wpP wd R pc L st h nx jp (.lookupswitch dt ps)) : At wd d m pc L st h R := by
  obtain ⟨z, st', e, hw1⟩ := p1_spec hw
  subst e
  intro p l e s mi args below meth c D aT ad A H locs ls C hP hD hS hH hL hs hlv
  have hz : inR z := hs.hd
  exact lv_lookup C.1 C.2.1 hd hp (by rw [i32t hz]) (toNat_of (h0 z)) (hj _ _ _ _ (swL_at (f := fun t => jp t L st' h) ps.toList hw1) p l e s mi args below meth c D aT ad A H locs ls C hP hD hS hH hL hs.tl hlv)
theorem Qr_of {wd : WD} {D : va_G} {aT : Nat → ClassId} {ad : Nat → Nat} {A : Nat → Prop} {R : AR} {args : Array Value} {s t : State} {H : Heap} {locs : List Loc} {o : Option AV} {h : AH} (ht : t.heap = H) (hW : s.WarmedH t.vm) (hK : va_K D vwCl (tyA aT) s) (hP : va_P D vwCl (wsO wd aT ad h) H) (hD : va_D A (wsO wd aT ad h)) (hS : va_S A s.heap H locs) (hH : okH wd h) (ho : ∀ v, o = some v → okV v) (hR : R o h) : Qr wd D aT ad A R args s (.returned (o.map (cv ad))) t :=
  ⟨⟨o, h, rfl, hR, ho, by rw [ht]; exact hP, va_K.moved hW.alike hK, hD, hH⟩, hS.F ht⟩
theorem ok_ireturn (hd : decode (mt m).2.1 pc = .ok (.ireturn, 1)) (hrt : (mt m).2.2.2 = some .int) (hw : wpP wd R pc L st h nx jp .ireturn) : At wd d m pc L st h R := by
  match st, hw with
  | [.inl z], hw =>
    intro p l e s mi args below meth c D aT ad A H locs ls C hP hD hS hH hL hs hlv
    obtain ⟨hx, hb, hr, hml, hown, hts, hlk, hA, hK, hSt⟩ := C
    exact W.iret hx hb (by rw [hr, hrt]) (fun t ht hW => Qr_of (o := some (.inl z)) ht hW hK hP hD hS hH (fun v e => by cases e; exact hs.hd) hw) hS.2.2 hd (hlocks := hlk)
theorem ok_zreturn {ty : FieldType} (hd : decode (mt m).2.1 pc = .ok (.ireturn, 1)) (hrt : (mt m).2.2.2 = some .boolean) {q : Nat × Nat × Nat × Nat × Int} {call : Nat → List AV → AH → AR → Prop} (hw : wpX wd call R L st h nx (11, q)) : At wd d m pc L st h R := by
  match st, hw with
  | [.inl z], hw =>
    intro p l e s mi args below meth c D aT ad A H locs ls C hP hD hS hH hL hs hlv
    obtain ⟨hx, hb, hr, hml, hown, hts, hlk, hA, hK, hSt⟩ := C
    have hw := zok_spec hw
    exact W.zret hx hb (by rw [hr, hrt]) (by rcases hw.1 with rfl | rfl <;> rfl) (fun t ht hW => Qr_of (o := some (.inl z)) ht hW hK hP hD hS hH (fun v e => by cases e; exact hs.hd) hw.2) hS.2.2 hd (hlocks := hlk)
theorem ok_lreturn (hd : decode (mt m).2.1 pc = .ok (.lreturn, 1)) (hrt : (mt m).2.2.2 = some .long) (hw : wpP wd R pc L st h nx jp .lreturn) : At wd d m pc L st h R := by
  match st, hw with
  | [.inr (.inl z)], hw =>
    intro p l e s mi args below meth c D aT ad A H locs ls C hP hD hS hH hL hs hlv
    obtain ⟨hx, hb, hr, hml, hown, hts, hlk, hA, hK, hSt⟩ := C
    exact W.lret hx hb (by rw [hr, hrt]) (fun t ht hW => Qr_of (o := some (.inr (.inl z))) ht hW hK hP hD hS hH (fun v e => by cases e; exact hs.hd) hw) hS.2.2 hd (hlocks := hlk)
theorem ok_areturn (hd : decode (mt m).2.1 pc = .ok (.areturn, 1)) {n : String} (hrt : (mt m).2.2.2 = some (.object n)) (hw : wpP wd R pc L st h nx jp .areturn) : At wd d m pc L st h R := by
  match st, hw with
  | [.inr (.inr z)], hw =>
    intro p l e s mi args below meth c D aT ad A H locs ls C hP hD hS hH hL hs hlv
    obtain ⟨hx, hb, hr, hml, hown, hts, hlk, hA, hK, hSt⟩ := C
    exact W.aret hx hb (by rw [hr, hrt]) (Or.inl ⟨_, rfl⟩) (Or.inr ⟨_, rfl⟩) (fun t ht hW => Qr_of (o := some (.inr (.inr z))) ht hW hK hP hD hS hH (fun v e => by cases e; exact hs.hd) hw) hS.2.2 hd (hlocks := hlk)
theorem ok_return (hd : decode (mt m).2.1 pc = .ok (.return_, 1)) (hrt : (mt m).2.2.2 = none) (hw : wpP wd R pc L st h nx jp .return_) : At wd d m pc L st h R := by
  match st, hw with
  | [], hw =>
    intro p l e s mi args below meth c D aT ad A H locs ls C hP hD hS hH hL hs hlv
    obtain ⟨hx, hb, hr, hml, hown, hts, hlk, hA, hK, hSt⟩ := C
    exact W.vret hx hb (by rw [hr, hrt]) (fun t ht hW => Qr_of (o := none) ht hW hK hP hD hS hH (fun v e => by cases e) hw) hS.2.2 hd (hlocks := hlk)
end OKC
