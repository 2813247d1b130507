/-! the plain instructions: wp is sound -/
theorem okS.tl {v : AV} {st : List AV} (h : okS (v :: st)) : okS st := fun u hu => h u (List.mem_cons_of_mem _ hu)
theorem okS.hd {v : AV} {st : List AV} (h : okS (v :: st)) : okV v := h v List.mem_cons_self
theorem okS.cons {v : AV} {st : List AV} (hv : okV v) (h : okS st) : okS (v :: st) := fun u hu => (List.mem_cons.mp hu).elim (fun e => by rw [e]; exact hv) (h u)
section OKI
variable {wd : WD} {d m pc pc' : Nat} {R : AR} {L : AL} {st st' : List AV} {h : AH} {nx : AL → List AV → AH → Prop} {jp : Nat → AL → List AV → AH → Prop}
theorem At.go (kit : ∀ (p : Program) (l : Launch) (e : Env) (s : State) (mi : MethodId) (args : Array Value) (below : List Frame) (meth : Method) (c : Code) (ad : Nat → Nat) (H : Heap) (locs : List Loc) (ls : Array Slot) (Q : State → Prop),
      p.tables.exec = Jvm.exec → c.code = (mt m).2.1 → okS st → okL L → lvP ad ls (mt m).2.2.1 L → W p l e (rmD d) s mi args below meth c H locs 0 0 Q (F0 mi pc' ls (st'.map (cv ad))) → W p l e (rmD d) s mi args below meth c H locs 0 0 Q (F0 mi pc ls (st.map (cv ad))))
    (hok : okS st → okL L → okS st') (k : At wd d m pc' L st' h R) : At wd d m pc L st h R := by
  intro p l e s mi args below meth c D aT ad A H locs ls C hP hD hS hH hL hs hlv
  exact kit p l e s mi args below meth c ad H locs ls _ C.1 C.2.1 hs hL hlv (k p l e s mi args below meth c D aT ad A H locs ls C hP hD hS hH hL (hok hs hL) hlv)
theorem ok_ldI {k pc2 : Nat} (hd : (∃ q : Fin 4, (q : Nat) = k ∧ decode (mt m).2.1 pc = .ok (.iload_n q, 1) ∧ pc2 = pc + 1) ∨ (decode (mt m).2.1 pc = .ok (.iload k, 2) ∧ pc2 = pc + 2)) (hn : ∀ L' st' h', nx L' st' h' → At wd d m pc2 L' st' h' R) (hw : ldI L st h nx k) : At wd d m pc L st h R := by
  unfold ldI at hw
  match hv : lgt L k, hw with
  | some (.inl z), hw =>
    refine At.go (pc' := pc2) (st' := .inl z :: st) ?_ (fun hs hL => hs.cons (hL k _ hv)) (hn _ _ _ hw)
    intro p l e s mi args below meth c ad H locs ls Q hx hb hs hL hlv kk
    have hat := hlv.2.2.2 k _ hv
    rcases hd with ⟨q, hq, hd, rfl⟩ | ⟨hd, rfl⟩
    · exact lv_iload_n hx hb hd hq hat kk
    · exact lv_iload hx hb hd hat kk
theorem ok_ldJ {k pc2 : Nat} (hd : (∃ q : Fin 4, (q : Nat) = k ∧ decode (mt m).2.1 pc = .ok (.lload_n q, 1) ∧ pc2 = pc + 1) ∨ (decode (mt m).2.1 pc = .ok (.lload k, 2) ∧ pc2 = pc + 2)) (hn : ∀ L' st' h', nx L' st' h' → At wd d m pc2 L' st' h' R) (hw : ldJ L st h nx k) : At wd d m pc L st h R := by
  unfold ldJ at hw
  match hv : lgt L k, hw with
  | some (.inr (.inl z)), hw =>
    refine At.go (pc' := pc2) (st' := .inr (.inl z) :: st) ?_ (fun hs hL => hs.cons (hL k _ hv)) (hn _ _ _ hw)
    intro p l e s mi args below meth c ad H locs ls Q hx hb hs hL hlv kk
    have hat := hlv.2.2.2 k _ hv
    rcases hd with ⟨q, hq, hd, rfl⟩ | ⟨hd, rfl⟩
    · exact lv_lload_n hx hb hd hq hat kk
    · exact lv_lload hx hb hd hat kk
theorem ok_ldR {k pc2 : Nat} (hd : (∃ q : Fin 4, (q : Nat) = k ∧ decode (mt m).2.1 pc = .ok (.aload_n q, 1) ∧ pc2 = pc + 1) ∨ (decode (mt m).2.1 pc = .ok (.aload k, 2) ∧ pc2 = pc + 2)) (hn : ∀ L' st' h', nx L' st' h' → At wd d m pc2 L' st' h' R) (hw : ldR L st h nx k) : At wd d m pc L st h R := by
  unfold ldR at hw
  match hv : lgt L k, hw with
  | some (.inr (.inr z)), hw =>
    refine At.go (pc' := pc2) (st' := .inr (.inr z) :: st) ?_ (fun hs hL => hs.cons (hL k _ hv)) (hn _ _ _ hw)
    intro p l e s mi args below meth c ad H locs ls Q hx hb hs hL hlv kk
    have hat := hlv.2.2.2 k _ hv
    rcases hd with ⟨q, hq, hd, rfl⟩ | ⟨hd, rfl⟩
    · exact lv_aload_n hx hb hd hq hat kk
    · exact lv_aload hx hb hd hat kk
theorem At.len {k : Nat} (hk : (mt m).2.2.1 ≤ k → At wd d m pc L st h R) (hk2 : k < (mt m).2.2.1 → At wd d m pc L st h R) : At wd d m pc L st h R := (Nat.lt_or_ge k (mt m).2.2.1).elim hk2 hk
theorem ok_stI {k pc2 : Nat} (hkm : k < (mt m).2.2.1) (hd : (∃ q : Fin 4, (q : Nat) = k ∧ decode (mt m).2.1 pc = .ok (.istore_n q, 1) ∧ pc2 = pc + 1) ∨ (decode (mt m).2.1 pc = .ok (.istore k, 2) ∧ pc2 = pc + 2)) (hn : ∀ L' st' h', nx L' st' h' → At wd d m pc2 L' st' h' R) (hw : stI L st h nx k) : At wd d m pc L st h R := by
  match st, hw with
  | .inl z :: st, hw =>
    intro p l e s mi args below meth c D aT ad A H locs ls C hP hD hS hH hL hs hlv
    have kk : ∀ ls', lv_has ls' (mt m).2.2.1 ((k, .int (Int32.ofInt z)) :: (lta ad L).filter (fun q => !(q.1 == k) && !(q.1 + 1 == k && q.2.category == 2))) → W p l e (rmD d) s mi args below meth c H locs 0 0 (MQ below (Qr wd D aT ad A R) args s 0 0 A) (F0 mi pc2 ls' (st.map (cv ad))) := fun ls' hl' =>
      hn _ _ _ hw p l e s mi args below meth c D aT ad A H locs ls' C hP hD hS hH (hL.st hs.hd) hs.tl (lvP.st1 (v := .inl z) hlv.2.2.1 hl' hkm)
    rcases hd with ⟨q, hq, hd, rfl⟩ | ⟨hd, rfl⟩
    · exact lv_istore_n C.1 C.2.1 hd hq hlv.has hkm rfl kk
    · exact lv_istore C.1 C.2.1 hd hlv.has hkm rfl kk
theorem ok_stR {k pc2 : Nat} (hkm : k < (mt m).2.2.1) (hd : (∃ q : Fin 4, (q : Nat) = k ∧ decode (mt m).2.1 pc = .ok (.astore_n q, 1) ∧ pc2 = pc + 1) ∨ (decode (mt m).2.1 pc = .ok (.astore k, 2) ∧ pc2 = pc + 2)) (hn : ∀ L' st' h', nx L' st' h' → At wd d m pc2 L' st' h' R) (hw : stR L st h nx k) : At wd d m pc L st h R := by
  match st, hw with
  | .inr (.inr z) :: st, hw =>
    intro p l e s mi args below meth c D aT ad A H locs ls C hP hD hS hH hL hs hlv
    have kk : ∀ ls', lv_has ls' (mt m).2.2.1 ((k, .ref (ad z)) :: (lta ad L).filter (fun q => !(q.1 == k) && !(q.1 + 1 == k && q.2.category == 2))) → W p l e (rmD d) s mi args below meth c H locs 0 0 (MQ below (Qr wd D aT ad A R) args s 0 0 A) (F0 mi pc2 ls' (st.map (cv ad))) := fun ls' hl' =>
      hn _ _ _ hw p l e s mi args below meth c D aT ad A H locs ls' C hP hD hS hH (hL.st hs.hd) hs.tl (lvP.st1 (v := .inr (.inr z)) hlv.2.2.1 hl' hkm)
    rcases hd with ⟨q, hq, hd, rfl⟩ | ⟨hd, rfl⟩
    · exact lv_astore_n C.1 C.2.1 hd hq hlv.has hkm rfl kk
    · exact lv_astore C.1 C.2.1 hd hlv.has hkm rfl kk
theorem ok_stJ {k pc2 : Nat} (hkm : k + 1 < (mt m).2.2.1) (hd : (∃ q : Fin 4, (q : Nat) = k ∧ decode (mt m).2.1 pc = .ok (.lstore_n q, 1) ∧ pc2 = pc + 1) ∨ (decode (mt m).2.1 pc = .ok (.lstore k, 2) ∧ pc2 = pc + 2)) (hn : ∀ L' st' h', nx L' st' h' → At wd d m pc2 L' st' h' R) (hw : stJ L st h nx k) : At wd d m pc L st h R := by
  match st, hw with
  | .inr (.inl z) :: st, hw =>
    intro p l e s mi args below meth c D aT ad A H locs ls C hP hD hS hH hL hs hlv
    have kk : ∀ ls', lv_has ls' (mt m).2.2.1 ((k, .long (Int64.ofInt z)) :: (lta ad L).filter (fun q => !(q.1 == k) && (!(q.1 == k + 1) && !(q.1 + 1 == k && q.2.category == 2)))) → W p l e (rmD d) s mi args below meth c H locs 0 0 (MQ below (Qr wd D aT ad A R) args s 0 0 A) (F0 mi pc2 ls' (st.map (cv ad))) := fun ls' hl' =>
      hn _ _ _ hw p l e s mi args below meth c D aT ad A H locs ls' C hP hD hS hH (okL.st2 (hL.st hs.hd)) hs.tl (lvP.st2 (v := .inr (.inl z)) hlv.2.2.1 hl' hkm)
    rcases hd with ⟨q, hq, hd, rfl⟩ | ⟨hd, rfl⟩
    · exact lv_lstore_n C.1 C.2.1 hd hq hlv.has hkm rfl kk
    · exact lv_lstore C.1 C.2.1 hd hlv.has hkm rfl kk
theorem ok_iinc {k : Nat} {n : Int} (hd : decode (mt m).2.1 pc = .ok (.iinc k n, 3)) (hn : ∀ L' st' h', nx L' st' h' → At wd d m (pc + 3) L' st' h' R) (hw : wpP wd R pc L st h nx jp (.iinc k n)) : At wd d m pc L st h R := by
  change (match lgt L k with | some (.inl z) => inR (z + n) ∧ nx (lst L k (some (.inl (z + n)))) st h | _ => False) at hw
  match hv : lgt L k, hw with
  | some (.inl z), hw =>
    intro p l e s mi args below meth c D aT ad A H locs ls C hP hD hS hH hL hs hlv
    have hkm : k < (mt m).2.2.1 := by rw [← hlv.2.2.1]; exact lgt_lt hv
    obtain ⟨j, hj⟩ := List.mem_iff_getElem?.mp (lta_mem (ad := ad) (L := L) (q := (k, .int (Int32.ofInt z))) |>.mpr ⟨_, hv, rfl⟩)
    have e1 : lst (lcl L k) k (some (.inl (z + n))) = lst L k (some (.inl (z + n))) ∨ ∃ k', k = k' + 1 ∧ is2 (lgt L k') = true := by
      cases k with
      | zero => exact Or.inl rfl
      | succ k =>
        cases hq : is2 (lgt L k) with
        | true => exact Or.inr ⟨k, rfl, hq⟩
        | false =>
          refine Or.inl ?_
          show lst (bif is2 (lgt L k) then lst L k none else L) (k + 1) _ = _
          rw [hq]; rfl
    rcases e1 with e1 | ⟨k', rfl, h2⟩
    · refine lv_iinc C.1 C.2.1 hd hlv.has hj (v := Int32.ofInt (z + n)) (by rw [Int32.ofInt_add]) hkm rfl (fun ls' hl' => ?_)
      have := lvP.st1 (ad := ad) (v := .inl (z + n)) hlv.2.2.1 hl' hkm
      have o1 := okL.st (i := k) hL (v := .inl (z + n)) hw.1
      rw [e1] at this o1
      exact hn _ _ _ hw.2 p l e s mi args below meth c D aT ad A H locs ls' C hP hD hS hH o1 hs this
    · exfalso
      cases hq : lgt L k' with
      | none => rw [hq] at h2; cases h2
      | some u =>
        rw [hq] at h2
        have h3 := hlv.2.2.2 k' u hq
        have h4 := hlv.2.1.1 k' _ h3 (cv_cat2 h2)
        have h5 := hlv.2.2.2 (k' + 1) _ hv
        rw [h4] at h5
        cases h5
end OKI
