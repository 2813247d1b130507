/-! calls -/
theorem va_A_sub {wd : WD} {aT : Nat → ClassId} {ad : Nat → Nat} {h : AH} {A : Nat → Prop} {H0 H : Heap} {locs : List Loc} (hD : va_D A (wsO wd aT ad h)) (hS : va_S A H0 H locs) (hA : ∀ q, H0.size ≤ q → A q) : ∀ q, va_A (wsO wd aT ad h) H.size q → A q := by
  intro q hq
  rcases hq with ⟨k, e, h1⟩ | h1
  · exact hD.2 k _ h1
  · exact hA q (Nat.le_trans hS.1 h1)
theorem am_call {wd : WD} {p : Program} {l : Launch} {e : Env} {Rm : Room} {s : State} {m : MethodId} {args : Array Value} {below : List Frame} {meth : Method} {c : Code} {H : Heap} {locs : List Loc} {Q : State → Prop} {pc : Nat} {ls : Array Slot} {st0 rest : List Value} {D : va_G} {aT : Nat → ClassId} {ad : Nat → Nat} {A1 A0 free : Nat → Prop} {a : Array Value} {R : AR}
    (hr : va_Run p l e Rm s m args below meth c H locs 0 0 0 0 (F0 m pc ls st0) rest (Qr wd D aT ad A1 R a) free) (hS : va_S A0 s.heap H locs) (hA : ∀ q, A1 q → A0 q) (hf : ∀ q, free q → A0 q)
    (kk : ∀ (o : Option AV) (u : AH) (H1 : Heap) (locs1 : List Loc), R o u → (∀ v, o = some v → okV v) → va_P D vwCl (wsO wd aT ad u) H1 → va_D A0 (wsO wd aT ad u) → okH wd u → va_S A0 s.heap H1 locs1 → W p l e Rm s m args below meth c H1 locs1 0 0 Q (F0 m (pc + 3) ls ((o.map (cv ad)).toList ++ rest))) : W p l e Rm s m args below meth c H locs 0 0 Q (F0 m pc ls st0) := by
  intro T hT X
  obtain ⟨v, st₀, t, T', L, h0, X', hL, e1, e2, ⟨⟨o, u, hv, hp, hok, hPu, hKu, hDu, hHu⟩, hz, hk⟩, st⟩ := hr T hT X
  cases hv
  rw [h0] at hz hk
  obtain ⟨t2, a1, b1⟩ := kk o u T'.heap (locs ++ L) hp hok (by rw [e1]; exact hPu) (hDu.weaken (fun _ _ _ q => hA _ q)) hHu
    ⟨Nat.le_trans hS.1 (by rw [e1]; exact hz), fun q h1 h2 => by rw [e1, hk q (Nat.lt_of_lt_of_le h1 hS.1) (fun z => h2 (hA q z))]; exact hS.2.1 q h1 h2, fun q hq => by
      rcases List.mem_append.mp hq with h | h
      · exact hS.2.2 q h
      · exact hf _ (hL q h)⟩ T' rfl X'
  exact ⟨t2, st t2 a1, b1⟩
theorem popN_spec : ∀ (n : Nat) (acc st as st' : List AV), popN n acc st = some (as, st') → as.reverse ++ st' = acc.reverse ++ st ∧ as.length = acc.length + n
  | 0, acc, st, as, st', h => by cases h; exact ⟨rfl, rfl⟩
  | n + 1, acc, v :: st, as, st', h => by
    obtain ⟨h1, h2⟩ := popN_spec n (v :: acc) st as st' h
    refine ⟨by rw [h1]; simp, by rw [h2]; simp; omega⟩
  | n + 1, acc, [], as, st', h => by cases h
theorem catS_ok {ad : Nat → Nat} : ∀ st : List AV, ((st.map (cv ad)).map fun v => v.category).sum = catS st
  | [] => rfl
  | .inl _ :: st => by simp only [List.map_cons, List.sum_cons, catS_ok st]; show 1 + catS st = catS st + 1; omega
  | .inr (.inl _) :: st => by simp only [List.map_cons, List.sum_cons, catS_ok st]; show 2 + catS st = catS st + 2; omega
  | .inr (.inr _) :: st => by simp only [List.map_cons, List.sum_cons, catS_ok st]; show 1 + catS st = catS st + 1; omega
/-- how a call is checked: the word, the kind of call, the receiver's class, how many arguments -/
def ckC (own : String) (b : ByteArray) (pc idx mid y w : Nat) : Bool :=
  Nat.blt mid nM && (((mpl mid).2.1 == (y / 100 == 99)) && ((decide (tg w = some (.methodLink own idx (mt mid).1)) || decide (tg w = some (.methodLinkNest own idx (mt mid).1 "FormulaCode"))) &&
  ((if y / 100 = 99 then decide (decode b pc = .ok (.invokestatic idx, 3)) && decide ((parseMethodDescriptor (mt mid).1.desc).map (fun d => d.parameters.length) = some (y % 100))
    else decide (decode b pc = .ok (.invokevirtual idx, 3)) && (decide ((parseMethodDescriptor (mt mid).1.desc).map (fun d => d.parameters.length + 1) = some (y % 100)) && (if y / 100 = 8 then decide ((mt mid).1.cls = "java/lang/String") else Nat.blt (y / 100) 8 && decide ((clA (y / 100)).1 = (mt mid).1.cls)))))))
theorem Pw_blind {wd : WD} {D : va_G} {aT : Nat → ClassId} {ad : Nat → Nat} {sz : Nat} {as : List AV} {h : AH} : FrameBlind (va_Pc (as.map (cv ad)) (Pw wd D aT ad sz as h)) := by
  intro a U g mk q
  obtain ⟨q0, q1, qP, qK, qD, qH, qa, qS⟩ := q
  exact ⟨q0, q1, qP, va_K.moved (u := U) (U := U.calling g mk a) (Vm.Alike.refl U.vm) qK, qD, qH, qa, Sta.blind (U := U) (V := U.calling g mk a) rfl rfl qS⟩
theorem wsM_good {m mid : Nat} (hm : mid < nM) : GoodIn (wsM m) (wsM mid) := by
  intro w hw
  have : w ∈ tb := by
    rcases List.mem_cons.mp hw with e | e
    · rw [e]; exact (mt_facts hm).1
    · exact e
  exact ⟨List.mem_cons_of_mem _ this, good_of_word (List.mem_filter.mp this).2⟩
theorem good_cons {m : Nat} {w : Cond} {ws : List Cond} (hw : w ∈ tb) (h : GoodIn (wsM m) ws) : GoodIn (wsM m) (w :: ws) := by
  intro u hu
  rcases List.mem_cons.mp hu with e | e
  · rw [e]; exact ⟨List.mem_cons_of_mem _ hw, good_of_word (List.mem_filter.mp hw).2⟩
  · exact h u e
section OKL
variable {wd : WD} {d m pc pc' len : Nat} {R : AR} {L : AL} {st st' : List AV} {h : AH} {nx : AL → List AV → AH → Prop} {jp : Nat → AL → List AV → AH → Prop} {idx x y w : Nat} {z : Int}
theorem room_ok {mid : Nat} (hm : mid < nM) : (rmD d).frames + 1 ≤ (rmD (d + 1)).frames ∧ 8 + ((mt mid).2.2.1 + 11) + (rmD d).locals ≤ (rmD (d + 1)).locals := by
  have := (mt_facts hm).2.2.2.2.2.1
  refine ⟨Nat.le_refl _, ?_⟩
  show 8 + ((mt mid).2.2.1 + 11) + 34 * d ≤ 34 * (d + 1)
  omega
/-- what is left when the callee's end is known -/
theorem ok_call0 {mid cc : Nat} {as : List AV} {R1 : AR} (hm : mid < nM) (hck : ckC (mt m).1.cls (mt m).2.1 pc idx mid y w = true) (hpop : popN (y % 100) [] st = some (as, st')) (hcat : catS st' ≤ 8)
    (hrc : y / 100 ≠ 99 → ∃ k as', as = .inr (.inr k) :: as' ∧ ((y / 100 = 8 ∧ isStr k = true) ∨ (y / 100 ≠ 8 ∧ isOb wd k (y / 100) = true)))
    (hcall : Call wd d mid as h R1) (hk : ∀ o u, R1 o u → (∀ v, o = some v → okV v) → At wd (d + 1) m (pc + 3) L (o.toList ++ st') u R) : At wd (d + 1) m pc L st h R := by
  intro p l e s mi args below meth c D aT ad A H locs ls C hP hD hS hH hL hs hlv
  obtain ⟨hx, hb, hr, hml, hown, hts, hlk, hA, hK, hSt⟩ := id C
  obtain ⟨f1, f2, f3, f4, f5, f6, f7⟩ := mt_facts hm
  have hsub := va_A_sub hD hS hA
  obtain ⟨hst, hlen⟩ := popN_spec _ _ _ _ _ hpop
  have hst : st = as.reverse ++ st' := by simpa using hst.symm
  have hlen : as.length = y % 100 := by simpa using hlen
  have hoka : ∀ v ∈ as, okV v := fun v hv => hs v (by rw [hst]; exact List.mem_append_left _ (List.mem_reverse.mpr hv))
  have hoks : okS st' := fun v hv => hs v (by rw [hst]; exact List.mem_append_right _ hv)
  have hM := hcall l D aT ad H.size
  have hPc : ∀ U : State, U.heap = H → s.WarmedH U.vm → va_Pc (as.map (cv ad)) (Pw wd D aT ad H.size as h) (as.map (cv ad)).toArray U := fun U hU hW =>
    ⟨rfl, by rw [hU], by rw [hU]; exact hP, va_K.moved hW.alike hK, hD.weaken (fun _ _ _ _ => trivial), hH, hoka, Sta.to hW hU hS hsub hSt⟩
  have fin : va_Run p l e (rmD (d + 1)) s mi args below meth c H locs 0 0 0 0 (F0 mi pc ls (st.map (cv ad))) (st'.map (cv ad)) (Qr wd D aT ad (va_A (wsO wd aT ad h) H.size) R1 (as.map (cv ad)).toArray) (va_A (wsO wd aT ad h) H.size) → W p l e (rmD (d + 1)) s mi args below meth c H locs 0 0 (MQ below (Qr wd D aT ad A R) args s 0 0 A) (F0 mi pc ls (st.map (cv ad))) := fun hrun =>
    am_call hrun hS hsub hsub (fun o u H1 locs1 hR1 hok hP1 hD1 hH1 hS1 => by
      have hokn : okS (o.toList ++ st') := fun v hv => by
        rcases List.mem_append.mp hv with q | q
        · exact hok v (by cases o with | none => cases q | some v' => simp at q; rw [q])
        · exact hoks v q
      have := hk o u hR1 hok p l e s mi args below meth c D aT ad A H1 locs1 ls C hP1 hD1 hS1 hH1 hL hokn hlv
      rw [List.map_append] at this
      cases o <;> exact this)
  have hcatW : 2 * (F0 mi pc ls (st.map (cv ad))).monitorRoom + ((st'.map (cv ad)).map fun v => v.category).sum ≤ 8 := by
    exact lv_room (by rw [catS_ok]; exact hcat)
  simp only [ckC, Bool.and_eq_true, Bool.or_eq_true, decide_eq_true_eq, beq_iff_eq] at hck
  obtain ⟨-, hst1, hlink, hrest⟩ := hck
  by_cases c99 : y / 100 = 99
  · rw [if_pos c99] at hrest
    simp only [Bool.and_eq_true, decide_eq_true_eq] at hrest
    have hstat : (mpl mid).2.1 = true := by rw [hst1, c99]; rfl
    rw [if_pos hstat] at f2
    rcases hlink with hlink | hlink
    · refine fin (va_runS (As := as.map (cv ad)) ⟨hx, hb, hml, hown, hts⟩ hM (va_cwS (y % 100) hts ?_ rfl rfl rfl ⟨f4, f5, hrest.2⟩ (room_ok hm)) ⟨Pw_blind, hPc⟩ rfl (by rw [List.length_map]; exact hlen) hlv.1 (by show st.map (cv ad) = _; rw [hst]; simp) hcatW hrest.1 ⟨Nat.le_refl _, Nat.le_refl _⟩)
      exact good_cons (tb_in hlink rfl) (good_cons f2 (good_cons f3 (wsM_good hm)))
    · exact fin (va_runSN (As := as.map (cv ad)) ⟨hx, hb, hml, hown, hts⟩ hM ⟨va_cnB (y % 100) hts (wsM_good hm) rfl rfl rfl (C.nst _ (nst_in hlink rfl)) (C.tb _ f3) ⟨f4, f5, hrest.2⟩ (room_ok hm), C.tb _ f2, trivial⟩ ⟨Pw_blind, hPc⟩ rfl (by rw [List.length_map]; exact hlen) hlv.1 (by show st.map (cv ad) = _; rw [hst]; simp) hcatW hrest.1 ⟨Nat.le_refl _, Nat.le_refl _⟩)
  · rw [if_neg c99] at hrest
    simp only [Bool.and_eq_true, decide_eq_true_eq] at hrest
    obtain ⟨hdec, hpar, hcls⟩ := hrest
    have hstat : ¬ (mpl mid).2.1 = true := by
      rw [hst1]
      simpa using c99
    rw [if_neg hstat] at f2
    obtain ⟨k, as', rfl, hkc⟩ := hrc c99
    have hpar' : (parseMethodDescriptor (mt mid).1.desc).map (fun d => d.parameters.length) = some (as'.map (cv ad)).length := by
      rw [List.length_map]
      simp only [List.length_cons] at hlen
      cases hq : parseMethodDescriptor (mt mid).1.desc with
      | none => rw [hq] at hpar; cases hpar
      | some sg =>
        rw [hq] at hpar
        have h9 : sg.parameters.length + 1 = y % 100 := Option.some.inj hpar
        show some sg.parameters.length = some as'.length
        congr 1
        omega
    have hrecv : ∃ cellB : Cell, H[ad k]? = some cellB ∧ cellB.vm.isStatics = false ∧ s.vm.findClass (mt mid).1.cls = some cellB.cls := by
      rcases hkc with ⟨c8, hk8⟩ | ⟨c8, hk8⟩
      · rw [if_pos c8] at hcls
        simp only [decide_eq_true_eq] at hcls
        simp only [isStr, Bool.and_eq_true, Nat.ble_eq, Nat.blt_eq] at hk8
        obtain ⟨av, a1, a2, -⟩ := hSt.1 (k - 1000) (by omega)
        rw [show 1000 + (k - 1000) = k by omega] at a2
        obtain ⟨cell, b1, b2, b3, -⟩ := a2.kept hS.2.1
        exact ⟨cell, b1, b2, by rw [hcls]; exact b3⟩
      · rw [if_neg c8] at hcls
        simp only [Bool.and_eq_true, decide_eq_true_eq, Nat.blt_eq] at hcls
        obtain ⟨a, b⟩ := cel_obj (aT := aT) (ad := ad) (h := h) hk8
        have he : (wsO wd aT ad h)[k]? = some (ad k, .inr (y / 100, fvl wd ad h k (y / 100))) := by rw [wsO_get a, b]
        obtain ⟨cell, b1, b2, b3⟩ := va_recv hK hP (clA_at hcls.1) he
        exact ⟨cell, b1, b2, by rw [← hcls.2]; exact b3⟩
    rcases hlink with hlink | hlink
    · refine fin (va_runV (C := (mt mid).1.cls) (As := as'.map (cv ad)) (b := ad k) ⟨hx, hb, hml, hown, hts⟩ hM (cwV (as'.map (cv ad)).length hts ?_ rfl rfl rfl ⟨rfl, f4, f5, hpar'⟩ (room_ok hm)) ⟨Pw_blind, hrecv, hPc⟩ rfl rfl hlv.1 (by show st.map (cv ad) = _; rw [hst]; simp [cv]) hcatW hdec ⟨Nat.le_refl _, Nat.le_refl _⟩)
      exact good_cons (tb_in hlink rfl) (good_cons f2.1 (good_cons f2.2 (good_cons f3 (wsM_good hm))))
    · exact fin (va_runVN (C := (mt mid).1.cls) (As := as'.map (cv ad)) (b := ad k) ⟨hx, hb, hml, hown, hts⟩ hM ⟨va_cnB (as'.map (cv ad)).length hts (wsM_good hm) rfl rfl rfl (C.nst _ (nst_in hlink rfl)) (C.tb _ f3) ⟨f4, f5, hpar'⟩ (room_ok hm), C.tb _ f2.1, C.tb _ f2.2⟩ ⟨Pw_blind, hrecv, hPc⟩ rfl rfl hlv.1 (by show st.map (cv ad) = _; rw [hst]; simp [cv]) hcatW hdec ⟨Nat.le_refl _, Nat.le_refl _⟩)
end OKL
