section WPX
variable {wd : WD} {d m pc len : Nat} {R : AR} {L : AL} {st : List AV} {h : AH} {nx : AL → List AV → AH → Prop} {jp : Nat → AL → List AV → AH → Prop}
theorem rcv_spec {cc : Nat} {as : List AV} {P : Prop} (hr : rcv wd cc as P) : P ∧ (cc ≠ 99 → ∃ k as', as = .inr (.inr k) :: as' ∧ ((cc = 8 ∧ isStr k = true) ∨ (cc ≠ 8 ∧ isOb wd k cc = true))) := by
  unfold rcv at hr
  split at hr
  · exact ⟨hr, fun q => absurd rfl q⟩
  · split at hr
    · obtain ⟨h1, h2⟩ := ob_spec hr
      exact ⟨h2, fun _ => ⟨_, _, rfl, Or.inl ⟨rfl, h1⟩⟩⟩
    · exact absurd hr id
  · split at hr
    · obtain ⟨h1, h2⟩ := ob_spec hr
      rename_i h8 _ _ _
      exact ⟨h2, fun _ => ⟨_, _, rfl, Or.inr ⟨h8, h1⟩⟩⟩
    · exact absurd hr id
theorem ok_call {idx x y w : Nat} {z : Int} (hck : ckC (mt m).1.cls (mt m).2.1 pc idx x y w = true) (hn : HN wd d m (pc + 3) R nx) (hw : wpX wd (calD wd d) R L st h nx (4, idx, x, y, w, z)) : At wd d m pc L st h R := by
  have hm : x < nM := by
    simp only [ckC, Bool.and_eq_true, Nat.blt_eq] at hck
    exact hck.1
  change wpC wd _ L st h nx x y z at hw
  unfold wpC at hw
  match hp : popN (y % 100) [] st, hw with
  | some (as, st'), hw =>
    obtain ⟨h1, h2⟩ := rcv_spec hw
    obtain ⟨h3, h4⟩ := ob_spec h1
    have hcat : catS st' ≤ 8 := Nat.ble_eq.mp h3
    match d, h4, hn with
    | 0, h4, _ => split at h4 <;> exact absurd h4 id
    | d' + 1, h4, hn =>
      split at h4
      · refine ok_call0 (cc := 0) hm hck hp hcat h2 h4 (fun o u hR _ => ?_)
        match o, hR with
        | none, hR => exact hn _ _ _ hR
      · refine ok_call0 (cc := 0) hm hck hp hcat h2 h4 (fun o u hR _ => ?_)
        match o, hR with
        | some (.inl v), hR => exact hn _ _ _ hR
      · refine ok_call0 (cc := 0) hm hck hp hcat h2 h4 (fun o u hR _ => ?_)
        match o, hR with
        | some (.inr (.inl v)), hR => exact hn _ _ _ hR
      · refine ok_call0 (cc := 0) hm hck hp hcat h2 h4 (fun o u hR _ => ?_)
        match o, hR with
        | some (.inr (.inr v)), hR => exact hn _ _ _ hR
theorem wpA_ok {a : AI} (hc : ckI (mt m) pc len a = true) (hn : HN wd d m (pc + len) R nx) (hj : HJ wd d m R jp) (hw : wpA wd d R pc L st h nx jp a) : At wd d m pc L st h R := by
  match a, hc, hw with
  | .inl i, hc, hw => exact wpP_ok hc hn hj hw
  | .inr (0, idx, x, y, w, z), hc, hw =>
    simp only [ckI, Bool.and_eq_true, decide_eq_true_eq, beq_iff_eq, Bool.not_eq_true'] at hc
    obtain ⟨rfl, hd, h1, h2⟩ := hc
    exact ok_getI (call := calD wd d) (x := x) (y := y) (w := w) (z := z) h1 h2 hd hn hw
  | .inr (1, idx, x, y, w, z), hc, hw =>
    simp only [ckI, Bool.and_eq_true, decide_eq_true_eq, beq_iff_eq] at hc
    obtain ⟨rfl, hd, h1, h2⟩ := hc
    exact ok_getR (call := calD wd d) (x := x) (y := y) (w := w) (z := z) h1 h2 hd hn hw
  | .inr (2, idx, x, y, w, z), hc, hw =>
    simp only [ckI, Bool.and_eq_true, decide_eq_true_eq, beq_iff_eq, Bool.not_eq_true'] at hc
    obtain ⟨rfl, hd, h1, h2, h3, h4⟩ := hc
    exact ok_putI (call := calD wd d) (x := x) (y := y) (w := w) (z := z) h1 h3 h2 h4 hd hn hw
  | .inr (3, idx, x, y, w, z), hc, hw =>
    simp only [ckI, Bool.and_eq_true, decide_eq_true_eq, beq_iff_eq, Bool.not_eq_true'] at hc
    obtain ⟨rfl, hd, h1, h2, h3, h4⟩ := hc
    exact ok_putZ (call := calD wd d) (x := x) (y := y) (w := w) (z := z) h1 h3 h2 h4 hd hn hw
  | .inr (4, idx, x, y, w, z), hc, hw =>
    simp only [ckI, Bool.and_eq_true, beq_iff_eq] at hc
    obtain ⟨rfl, h1⟩ := hc
    exact ok_call (z := z) h1 hn hw
  | .inr (5, idx, x, y, w, z), hc, hw =>
    simp only [ckI, Bool.and_eq_true, decide_eq_true_eq, beq_iff_eq] at hc
    obtain ⟨rfl, hd, h1, h2⟩ := hc
    exact ok_ldc2 (call := calD wd d) (x := x) (y := y) (w := w) (z := z) h1 h2 hd hn hw
  | .inr (6, idx, x, y, w, z), hc, hw =>
    simp only [ckI, Bool.and_eq_true, decide_eq_true_eq] at hc
    obtain ⟨⟨h1, h2⟩, h3⟩ := hc
    by_cases hx : x = 0
    · rw [if_pos hx] at h3
      simp only [Bool.and_eq_true, decide_eq_true_eq, beq_iff_eq] at h3
      obtain ⟨rfl, hd⟩ := h3
      exact ok_ldcI (call := calD wd d) (x := x) (y := y) (w := w) (z := z) h1 h2 (Or.inl ⟨hd, rfl⟩) hn hw
    · rw [if_neg hx] at h3
      simp only [Bool.and_eq_true, decide_eq_true_eq, beq_iff_eq] at h3
      obtain ⟨rfl, hd⟩ := h3
      exact ok_ldcI (call := calD wd d) (x := x) (y := y) (w := w) (z := z) h1 h2 (Or.inr ⟨hd, rfl⟩) hn hw
  | .inr (7, idx, x, y, w, z), hc, hw =>
    simp only [ckI, Bool.and_eq_true, decide_eq_true_eq, beq_iff_eq, Nat.blt_eq] at hc
    obtain ⟨rfl, hd, h1, h2, h3⟩ := hc
    exact ok_ldcS (call := calD wd d) (x := x) (y := y) (w := w) (z := z) h1 h2 h3 hd hn hw
  | .inr (8, idx, x, y, w, z), hc, hw =>
    simp only [ckI, Bool.and_eq_true, Bool.or_eq_true, decide_eq_true_eq, beq_iff_eq] at hc
    obtain ⟨rfl, hd, h1⟩ := hc
    exact ok_getF (call := calD wd d) (x := x) (y := y) (w := w) (z := z) h1 hd hn hw
  | .inr (10, idx, x, y, w, z), hc, hw =>
    simp only [ckI, Bool.and_eq_true, decide_eq_true_eq, beq_iff_eq] at hc
    obtain ⟨rfl, hd, h1⟩ := hc
    exact ok_getG (call := calD wd d) (x := x) (y := y) (w := w) (z := z) h1 hd hn hw
  | .inr (11, idx, x, y, w, z), hc, hw =>
    simp only [ckI, Bool.and_eq_true, decide_eq_true_eq, beq_iff_eq] at hc
    obtain ⟨rfl, hd, h1⟩ := hc
    exact ok_zreturn (ty := .int) (nx := nx) (call := calD wd d) (q := (idx, x, y, w, z)) hd h1 hw
  | .inr (9, idx, x, y, w, z), hc, hw => simp [ckI] at hc
  | .inr (12, idx, x, y, w, z), hc, hw => simp [ckI] at hc
  | .inr (13, idx, x, y, w, z), hc, hw =>
    simp only [ckI, Bool.and_eq_true, decide_eq_true_eq, beq_iff_eq] at hc
    obtain ⟨rfl, hd⟩ := hc
    exact ok_flen (call := calD wd d) (idx := idx) (x := x) (y := y) (w := w) (z := z) hd hn hw
  | .inr (n + 14, idx, x, y, w, z), hc, hw => simp [ckI] at hc
end WPX
/-- from a place on -/
def dTo (t : Nat) : CD → CD
  | [] => []
  | (pc, len, a) :: cs => bif Nat.beq pc t then (pc, len, a) :: cs else dTo t cs
def cutAt (t : Nat) : List (Nat × List Bool) → Option (List Bool)
  | [] => none
  | (p, bs) :: c => bif Nat.beq p t then some bs else cutAt t c
/-- the text of method m from where cs begins, up to the cut points -/
def wp (wd : WD) (d m : Nat) (cd : CD) (cut : List (Nat × List Bool)) (R : AR) : Nat → CD → AL → List AV → AH → Prop
  | 0, _, _, _, _ => False
  | _ + 1, [], _, _, _ => False
  | n + 1, (pc, _, a) :: cs, L, st, h => wpA wd d R pc L st h
      (fun L' st' h' => match cs with
        | [] => False
        | (pc', _, _) :: _ => (match cutAt pc' cut with
          | some bs => At wd d m pc' (lmk L' bs) st' h' R
          | none => wp wd d m cd cut R n cs L' st' h'))
      (fun t L' st' h' => match cutAt t cut with
        | some bs => At wd d m t (lmk L' bs) st' h' R
        | none => wp wd d m cd cut R n (dTo t cd) L' st' h') a
theorem At.mask {wd : WD} {d m pc : Nat} {L : AL} {bs : List Bool} {st : List AV} {h : AH} {R : AR} (hb : bs.length = (mt m).2.2.1) (hk : At wd d m pc (lmk L bs) st h R) : At wd d m pc L st h R := by
  intro p l e s mi args below meth c D aT ad A H locs ls C hP hD hS hH hL hs hlv
  exact hk p l e s mi args below meth c D aT ad A H locs ls C hP hD hS hH (fun i v hv => hL i v (lgt_lmk _ _ _ _ hv)) hs ⟨hlv.1, hlv.2.1, by rw [lmk_length _ _ (by rw [hb]; exact hlv.2.2.1)]; exact hlv.2.2.1, fun i v hv => hlv.2.2.2 i v (lgt_lmk _ _ _ _ hv)⟩
theorem dTo_ck {q : MI} : ∀ (cd : CD) (t : Nat), ckM q cd = true → ckM q (dTo t cd) = true
  | [], _, h => h
  | (pc, len, a) :: cs, t, h => by
    unfold dTo
    cases hb : Nat.beq pc t with
    | true => exact h
    | false =>
      simp only [ckM, Bool.and_eq_true] at h
      exact dTo_ck cs t h.2.2
theorem dTo_head : ∀ (cd : CD) (t pc len : Nat) (a : AI) (cs : CD), dTo t cd = (pc, len, a) :: cs → pc = t
  | [], _, _, _, _, _, h => by cases h
  | (pc0, len0, a0) :: cs0, t, pc, len, a, cs, h => by
    unfold dTo at h
    cases hb : Nat.beq pc0 t with
    | true =>
      rw [hb] at h
      cases h
      exact Nat.eq_of_beq_eq_true hb
    | false =>
      rw [hb] at h
      exact dTo_head cs0 t pc len a cs h
theorem cut_len {cut : List (Nat × List Bool)} {n t : Nat} {bs : List Bool} (hcut : cut.all (fun q => q.2.length == n) = true) (h : cutAt t cut = some bs) : bs.length = n := by
  induction cut with
  | nil => cases h
  | cons q cut ih =>
    simp only [List.all_cons, Bool.and_eq_true, beq_iff_eq] at hcut
    unfold cutAt at h
    cases hb : Nat.beq q.1 t with
    | true =>
      simp only [hb, cond_true] at h
      cases h
      exact hcut.1
    | false =>
      simp only [hb, cond_false] at h
      exact ih hcut.2 h
theorem wp_ok {wd : WD} {d m : Nat} {cd : CD} {cut : List (Nat × List Bool)} {R : AR} (hcd : ckM (mt m) cd = true) (hcut : cut.all (fun q => q.2.length == (mt m).2.2.1) = true) : ∀ (n : Nat) (cs : CD) (pc len : Nat) (a : AI) (cs' : CD) (L : AL) (st : List AV) (h : AH), cs = (pc, len, a) :: cs' → ckM (mt m) cs = true → wp wd d m cd cut R n cs L st h → At wd d m pc L st h R := by
  intro n
  induction n with
  | zero => intro cs pc len a cs' L st h _ _ hw; exact absurd hw id
  | succ n ih =>
    intro cs pc len a cs' L st h e hck hw
    subst e
    simp only [ckM, Bool.and_eq_true] at hck
    refine wpA_ok hck.1 ?_ ?_ hw
    · intro L' st' h' hx
      match cs', hck, hx with
      | (pc', len', a') :: cs'', hck, hx =>
        have hpc : pc' = pc + len := by simpa using hck.2.1
        subst hpc
        match hq : cutAt (pc + len) cut, hx with
        | some bs, hx =>
          have hx : At wd d m (pc + len) (lmk L' bs) st' h' R := by simpa [hq] using hx
          exact At.mask (cut_len hcut hq) hx
        | none, hx =>
          have hx : wp wd d m cd cut R n ((pc + len, len', a') :: cs'') L' st' h' := by simpa [hq] using hx
          exact ih _ _ _ _ _ L' st' h' rfl hck.2.2 hx
    · intro t L' st' h' hx
      match hq : cutAt t cut, hx with
      | some bs, hx =>
        have hx : At wd d m t (lmk L' bs) st' h' R := by simpa [hq] using hx
        exact At.mask (cut_len hcut hq) hx
      | none, hx =>
        have hx : wp wd d m cd cut R n (dTo t cd) L' st' h' := by simpa [hq] using hx
        match hd : dTo t cd with
        | [] =>
          rw [hd] at hx
          cases n with
          | zero => exact absurd hx id
          | succ n => exact absurd hx id
        | (pc1, len1, a1) :: cs1 =>
          have := dTo_head cd t pc1 len1 a1 cs1 hd
          subst this
          exact ih _ _ _ _ _ L' st' h' hd (dTo_ck cd _ hcd) hx
/-- the proof rule: at pc, by wp over the text from there -/
theorem At.wp {wd : WD} {d m pc : Nat} {L : AL} {st : List AV} {h : AH} {R : AR} (n : Nat) (cd : CD) (cut : List (Nat × List Bool)) (hcd : ckM (mt m) cd = true) (hcut : cut.all (fun q => q.2.length == (mt m).2.2.1) = true) (hpc : ∃ len a cs, dTo pc cd = (pc, len, a) :: cs) (hw : wp wd d m cd cut R n (dTo pc cd) L st h) : At wd d m pc L st h R := by
  obtain ⟨len, a, cs, e⟩ := hpc
  exact wp_ok hcd hcut n (dTo pc cd) pc len a cs L st h e (dTo_ck cd pc hcd) hw
/-- the locals at a method's entry -/
def enL : List AV → AL
  | [] => []
  | .inl z :: as => some (.inl z) :: enL as
  | .inr (.inl z) :: as => some (.inr (.inl z)) :: none :: enL as
  | .inr (.inr k) :: as => some (.inr (.inr k)) :: enL as
def padL : Nat → AL → AL
  | 0, _ => []
  | n + 1, [] => none :: padL n []
  | n + 1, v :: L => v :: padL n L
theorem padL_len : ∀ (n : Nat) (L : AL), (padL n L).length = n
  | 0, _ => rfl
  | n + 1, [] => by simp [padL, padL_len n []]
  | n + 1, v :: L => by simp [padL, padL_len n L]
theorem lgt_padL : ∀ (n : Nat) (L : AL) (i : Nat) (v : AV), lgt (padL n L) i = some v → lgt L i = some v
  | 0, _, _, _, h => by cases h
  | n + 1, [], 0, v, h => by cases h
  | n + 1, [], i + 1, v, h => by have := lgt_padL n [] i v h; cases this
  | n + 1, u :: L, 0, v, h => h
  | n + 1, u :: L, i + 1, v, h => lgt_padL n L i v h
theorem enL_len (ad : Nat → Nat) : ∀ as : List AV, (enL as).length = (lg_sl (as.map (cv ad))).length
  | [] => rfl
  | .inl z :: as => by
    show (enL as).length + 1 = (lg_sl (as.map (cv ad))).length + 1
    rw [enL_len ad as]
  | .inr (.inl z) :: as => by
    show (enL as).length + 1 + 1 = (lg_sl (as.map (cv ad))).length + 1 + 1
    rw [enL_len ad as]
  | .inr (.inr k) :: as => by
    show (enL as).length + 1 = (lg_sl (as.map (cv ad))).length + 1
    rw [enL_len ad as]
theorem enL_at (ad : Nat → Nat) : ∀ (as : List AV) (i j : Nat) (v : AV), lgt (enL as) i = some v → (j + i, cv ad v) ∈ lv_args j (as.map (cv ad))
  | [], _, _, _, h => by cases h
  | .inl z :: as, 0, j, v, h => by cases h; simp [lv_args, cv]
  | .inr (.inl z) :: as, 0, j, v, h => by cases h; simp [lv_args, cv]
  | .inr (.inr k) :: as, 0, j, v, h => by cases h; simp [lv_args, cv]
  | .inl z :: as, i + 1, j, v, h => by
    have := enL_at ad as i (j + 1) v h
    rw [show j + 1 + i = j + (i + 1) by omega] at this
    exact List.mem_cons_of_mem _ this
  | .inr (.inr k) :: as, i + 1, j, v, h => by
    have := enL_at ad as i (j + 1) v h
    rw [show j + 1 + i = j + (i + 1) by omega] at this
    exact List.mem_cons_of_mem _ this
  | .inr (.inl z) :: as, 1, j, v, h => by cases h
  | .inr (.inl z) :: as, i + 2, j, v, h => by
    have := enL_at ad as i (j + 2) v h
    rw [show j + 2 + i = j + (i + 2) by omega] at this
    exact List.mem_cons_of_mem _ this
theorem enL_ok : ∀ (as : List AV) (i : Nat) (v : AV), lgt (enL as) i = some v → v ∈ as
  | [], _, _, h => by cases h
  | .inl z :: as, 0, v, h => by cases h; simp
  | .inr (.inl z) :: as, 0, v, h => by cases h; simp
  | .inr (.inr k) :: as, 0, v, h => by cases h; simp
  | .inl z :: as, i + 1, v, h => List.mem_cons_of_mem _ (enL_ok as i v h)
  | .inr (.inr k) :: as, i + 1, v, h => List.mem_cons_of_mem _ (enL_ok as i v h)
  | .inr (.inl z) :: as, 1, v, h => by cases h
  | .inr (.inl z) :: as, i + 2, v, h => List.mem_cons_of_mem _ (enL_ok as i v h)
/-- a method's contract, from its entry -/
theorem Call.of {wd : WD} {d m : Nat} {as : List AV} {h : AH} {R : AR} (hm : m < nM) (hl : (enL as).length ≤ (mt m).2.2.1) (k : At wd d m 0 (padL (mt m).2.2.1 (enL as)) [] h R) : Call wd d m as h R := by
  intro l D aT ad sz
  obtain ⟨f1, f2, f3, f4, f5, f6, f7⟩ := mt_facts hm
  refine Met.ofW (cc := (mt m).2.1) (maxL := (mt m).2.2.1) (ret := (mt m).2.2.2) f7 rfl ?_
  intro p e s mi args below meth c s₁ B hml hv
  obtain ⟨rfl, hsz, hP, hK, hD0, hH, hoka, hSt⟩ := hv
  subst hsz
  have hD := hD0.self (sz := s.heap.size)
  have hA : ∀ q : Nat, s.heap.size ≤ q → va_A (wsO wd aT ad h) s.heap.size q := fun q h => Or.inr h
  have hl2 : (lg_sl (as.map (cv ad))).length ≤ (mt m).2.2.1 := by rw [← enL_len]; exact hl
  have hl3 := lv_entry (as.map (cv ad)) (n := (mt m).2.2.1) hl2
  rw [lg_entry_eq]
  refine k p l e s mi _ below meth c D aT ad _ s.heap [] _ ⟨B.exec, B.bytes, B.returns, hml, findClass_of_methodNamed B.named, atoms_spec (ws := wsM m) B.pre, B.notSynchronized, hA, hK, hSt⟩ hP hD va_S.rf hH (fun i v hv => hoka v (enL_ok as i v (lgt_padL _ _ _ _ hv))) (fun v hv => by cases hv) (lvP.of hl3 (padL_len _ _) (fun i v hv => ?_))
  have := enL_at ad as i 0 v (lgt_padL _ _ _ _ hv)
  rwa [Nat.zero_add] at this
