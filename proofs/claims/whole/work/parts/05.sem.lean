/-! what the small machine means -/
theorem mt_get {k : Nat} (hk : k < nM) : mtab[k]? = some (mt k) := by
  have hl : k < mtab.length := by rw [mtab_len]; exact hk
  rw [mt, List.getD_eq_getElem?_getD, List.getElem?_eq_getElem hl]
  rfl
def mpl (k : Nat) : Nat × Bool × Nat × Nat × Nat := mplc.getD k (0, false, 0, 0, 0)
theorem mchk_at {k : Nat} (hk : k < nM) : mchk (mt k) (mpl k) = true := by
  have hl : k < mplc.length := by rw [mplc_len]; exact hk
  have e : mplc[k]? = some (mpl k) := by
    rw [mpl, List.getD_eq_getElem?_getD, List.getElem?_eq_getElem hl]
    rfl
  have h := List.all_eq_true.mp mchk_all (mt k, mpl k) ?_
  · exact h
  · refine List.mem_of_getElem? (i := k) ?_
    rw [List.getElem?_zip_eq_some]
    exact ⟨mt_get hk, e⟩
theorem mt_facts {k : Nat} (hk : k < nM) : (Cond.code (mt k).1 (mt k).2.1 (mt k).2.2.1 (mt k).2.2.2 ∈ tb) ∧ (if (mpl k).2.1 then Cond.static (mt k).1 ∈ tb else (Cond.instanceMethod (mt k).1 ∈ tb ∧ Cond.selects (mt k).1.cls (mt k).1 (mt k).1 ∈ tb)) ∧ Cond.initialized (mt k).1.cls ∈ tb ∧ (mt k).1.cls ≠ "java/lang/invoke/MethodHandle" ∧ (mt k).1.cls ≠ "java/lang/invoke/VarHandle" ∧ (mt k).2.2.1 ≤ 15 ∧ plainName (mt k).1.cls = true := by
  have h := mchk_at hk
  obtain ⟨p, hp⟩ := mcd k hk
  simp only [mchk, Bool.and_eq_true, decide_eq_true_eq, Bool.or_eq_true] at h
  obtain ⟨⟨⟨⟨⟨⟨⟨⟨⟨h1, h2⟩, h3⟩, g1⟩, g2⟩, g3⟩, c1⟩, c2⟩, hl⟩, hn⟩ := h
  refine ⟨tb_in hp rfl, ?_, tb_in h3 g3, c1, c2, hl, hn⟩
  cases hq : (mpl k).2.1 with
  | true =>
    rw [hq] at h1 g1
    exact tb_in h1 g1
  | false =>
    rw [hq] at h1 h2 g1 g2
    exact ⟨tb_in h1 g1, tb_in (h2.resolve_left (by simp)) g2⟩
abbrev vwD : vw_C := ("", fun _ => ("", "", "", false), 0)
def clA (ci : Nat) : vw_C := vwCl.getD ci vwD
def isRf (ci j : Nat) : Bool := match parseFieldDescriptor ((clA ci).2.1 j).2.2.1 with
  | some (.object _) => true
  | some (.array _) => true
  | _ => false
def cv (ad : Nat → Nat) : AV → Value
  | .inl z => .int (Int32.ofInt z)
  | .inr (.inl z) => .long (Int64.ofInt z)
  | .inr (.inr k) => .ref (ad k)
def fvl (wd : WD) (ad : Nat → Nat) (h : AH) (k ci : Nat) : List Value := (List.range (clA ci).2.2).map fun j => bif isRf ci j then .ref (ad (rfk wd k j)) else .int (Int32.ofInt (h.1 k j))
def cel (wd : WD) (aT : Nat → ClassId) (ad : Nat → Nat) (h : AH) (k : Nat) : va_E :=
  if (wd.2.1 k).1 = 0 then .inr ((wd.2.1 k).2.1, fvl wd ad h k (wd.2.1 k).2.1)
  else .inl (aT (wd.2.1 k).2.1, (wd.2.1 k).2.2, if (wd.2.1 k).2.1 = 1 then .inr (.inl fun i => Int64.ofInt (h.2 k i)) else .inl fun i => Int32.ofInt (h.2 k i))
def wsO (wd : WD) (aT : Nat → ClassId) (ad : Nat → Nat) (h : AH) : va_W := (List.range wd.1).map fun k => (ad k, cel wd aT ad h k)
def tyA (aT : Nat → ClassId) : List (ClassId × FieldType) := [(aT 0, .int), (aT 1, .long), (aT 2, .boolean), (aT 3, .char)]
def okV : AV → Prop
  | .inl z => inR z
  | .inr (.inl z) => inJ z
  | .inr (.inr _) => True
def okL (L : AL) : Prop := ∀ (i : Nat) (v : AV), lgt L i = some v → okV v
def okS (st : List AV) : Prop := ∀ v ∈ st, okV v
def okH (wd : WD) (h : AH) : Prop := (∀ k j : Nat, inR (h.1 k j)) ∧ ∀ k i : Nat, ((wd.2.1 k).2.1 = 1 → inJ (h.2 k i)) ∧ ((wd.2.1 k).2.1 ≠ 1 → inR (h.2 k i))
def lvP (ad : Nat → Nat) (ls : Array Slot) (nL : Nat) (L : AL) : Prop := ls.size = nL ∧ lv_wf ls ∧ L.length = nL ∧ ∀ (i : Nat) (v : AV), lgt L i = some v → ls[i]? = some (.val (cv ad v))
def stD : String × Nat × String := ("", 0, "")
def isNs : Cond → Bool
  | .fieldLinkNest .. => true
  | .methodLinkNest .. => true
  | _ => false
def nst : List Cond := lw_tbl.filter isNs
theorem nst_in {p : Nat} {w : Cond} (h : tg p = some w) (g : isNs w = true) : w ∈ nst := List.mem_filter.mpr ⟨tbN_in _ _ (List.mem_of_getElem? h), g⟩
theorem nst_warm {w : Cond} {s U : State} (hw : w ∈ nst) (hW : s.WarmedH U.vm) (h : va_Nw w s) : va_Nw w U := by
  have hq := (List.mem_filter.mp hw).2
  cases w with
  | fieldLinkNest a b c d e f => exact va_Nw.warmF hW h
  | methodLinkNest a b c d => exact va_Nw.warmM hW h
  | _ => cases hq
theorem nst_same {w : Cond} {s U : State} (hw : w ∈ nst) (hv : s.vm = U.vm) (h : va_Nw w s) : va_Nw w U := by
  have hq := (List.mem_filter.mp hw).2
  cases w with
  | fieldLinkNest a b c d e f => exact va_Nw.same rfl hv h
  | methodLinkNest a b c d => exact va_Nw.same rfl hv h
  | _ => cases hq
/-- what is there from the start and is never written: the texts, the functions, their list -/
def Sta (ad : Nat → Nat) (A : Nat → Prop) (U : State) : Prop :=
  (∀ i : Nat, i < 175 → ∃ av : Nat, vk_R (strs.getD i stD).1 (strs.getD i stD).2.1 (strs.getD i stD).2.2 (ad (1000 + i)) U ∧ va_O "java/lang/String" (ad (1000 + i)) A U U.heap ∧ va_OF "java/lang/String" "coder" "B" (.int 0) (ad (1000 + i)) A U U.heap ∧ va_OF "java/lang/String" "value" "[B" (.ref av) (ad (1000 + i)) A U U.heap ∧ va_T .byte av (strC.getD i []).length (fun j => .int (Int32.ofInt ((strC.getD i []).getD j 0))) A U U.heap)
  ∧ (∀ f : Nat, f < 133 → va_O "FormulaCode$Function" (ad (2000 + f)) A U U.heap ∧ va_OF "FormulaCode$Function" "great" "Ljava/lang/String;" (.ref (ad (1000 + efS f))) (ad (2000 + f)) A U U.heap ∧ va_OF "FormulaCode$Function" "least" "I" (.int (Int32.ofInt (efI 0 f))) (ad (2000 + f)) A U U.heap ∧ va_OF "FormulaCode$Function" "greatest" "I" (.int (Int32.ofInt (efI 1 f))) (ad (2000 + f)) A U U.heap)
  ∧ va_Z "FormulaCode" "FUNCTIONS" "[LFormulaCode$Function;" (.ref (ad 3000)) A U U.heap
  ∧ va_T (.object "FormulaCode$Function") (ad 3000) 133 (fun j => .ref (ad (2000 + j))) A U U.heap
  ∧ va_Z "java/lang/String" "COMPACT_STRINGS" "Z" (.int 1) A U U.heap
  ∧ ∀ w ∈ nst, va_Nw w U
theorem Sta.to {ad : Nat → Nat} {A B : Nat → Prop} {s U : State} {H : Heap} {locs : List Loc} (hW : s.WarmedH U.vm) (hU : U.heap = H) (hS : va_S A s.heap H locs) (hAB : ∀ q, B q → A q) (h : Sta ad A s) : Sta ad B U := by
  have hv := hW.alike
  have hq : ∀ a : Nat, a < s.heap.size → ¬ A a → U.heap[a]? = s.heap[a]? := fun a h1 h2 => by rw [hU]; exact hS.2.1 a h1 h2
  obtain ⟨h1, h2, h3, h4, h5, h6⟩ := h
  refine ⟨fun i hi => ?_, fun f hf => ?_, ((va_Z.moved hv h3).kept hq).narrow hAB, ((va_T.moved hv h4).kept hq).narrow hAB, ((va_Z.moved hv h5).kept hq).narrow hAB, fun w hw => nst_warm hw hW (h6 w hw)⟩
  · obtain ⟨av, a1, a2, a3, a4, a5⟩ := h1 i hi
    exact ⟨av, a1.warm hW, ((va_O.moved hv a2).kept hq).narrow hAB, ((va_OF.moved hv a3).kept hq).narrow hAB, ((va_OF.moved hv a4).kept hq).narrow hAB, ((va_T.moved hv a5).kept hq).narrow hAB⟩
  · obtain ⟨a1, a2, a3, a4⟩ := h2 f hf
    exact ⟨((va_O.moved hv a1).kept hq).narrow hAB, ((va_OF.moved hv a2).kept hq).narrow hAB, ((va_OF.moved hv a3).kept hq).narrow hAB, ((va_OF.moved hv a4).kept hq).narrow hAB⟩
theorem Sta.blind {ad : Nat → Nat} {A : Nat → Prop} {U V : State} (hv : V.vm = U.vm) (hh : V.heap = U.heap) (h : Sta ad A U) : Sta ad A V := by
  have ha : U.vm.Alike V.vm := by rw [hv]; exact Vm.Alike.refl U.vm
  obtain ⟨h1, h2, h3, h4, h5, h6⟩ := h
  rw [← hh] at h3 h4 h5
  refine ⟨fun i hi => ?_, fun f hf => ?_, va_Z.moved ha h3, va_T.moved ha h4, va_Z.moved ha h5, fun w hw => nst_same hw hv.symm (h6 w hw)⟩
  · obtain ⟨av, a1, a2, a3, a4, a5⟩ := h1 i hi
    rw [← hh] at a2 a3 a4 a5
    exact ⟨av, a1.same hv, va_O.moved ha a2, va_OF.moved ha a3, va_OF.moved ha a4, va_T.moved ha a5⟩
  · obtain ⟨a1, a2, a3, a4⟩ := h2 f hf
    rw [← hh] at a1 a2 a3 a4
    exact ⟨va_O.moved ha a1, va_OF.moved ha a2, va_OF.moved ha a3, va_OF.moved ha a4⟩
def rmD (d : Nat) : Room := { frames := d, cells := 0, slots := 0, locals := 34 * d }
def wsM (k : Nat) : List Cond := Cond.code (mt k).1 (mt k).2.1 (mt k).2.2.1 (mt k).2.2.2 :: tb
def Bw (wd : WD) (D : va_G) (aT : Nat → ClassId) (ad : Nat → Nat) (A : Nat → Prop) (u : AH) (t : State) : Prop := va_P D vwCl (wsO wd aT ad u) t.heap ∧ va_K D vwCl (tyA aT) t ∧ va_D A (wsO wd aT ad u) ∧ okH wd u
def Qr (wd : WD) (D : va_G) (aT : Nat → ClassId) (ad : Nat → Nat) (A : Nat → Prop) (R : AR) : Array Value → State → Outcome → State → Prop := fun _ st oc t =>
  (∃ (o : Option AV) (u : AH), oc = .returned (o.map (cv ad)) ∧ R o u ∧ (∀ v, o = some v → okV v) ∧ Bw wd D aT ad A u t) ∧ va_F A st t
def Pw (wd : WD) (D : va_G) (aT : Nat → ClassId) (ad : Nat → Nat) (sz : Nat) (as : List AV) (h : AH) (U : State) : Prop :=
  U.heap.size = sz ∧ va_P D vwCl (wsO wd aT ad h) U.heap ∧ va_K D vwCl (tyA aT) U ∧ va_D (fun _ => True) (wsO wd aT ad h) ∧ okH wd h ∧ (∀ v ∈ as, okV v) ∧ Sta ad (va_A (wsO wd aT ad h) sz) U
/-- the method, called with these, ends, and its end meets R; d calls may stand open in it -/
def Call (wd : WD) (d mid : Nat) (as : List AV) (h : AH) (R : AR) : Prop := ∀ (l : Launch) (D : va_G) (aT : Nat → ClassId) (ad : Nat → Nat) (sz : Nat), Met l (mt mid).1 (wsM mid) (rmD d) (va_Pc (as.map (cv ad)) (Pw wd D aT ad sz as h)) (Qr wd D aT ad (va_A (wsO wd aT ad h) sz) R) 0 0 (va_A (wsO wd aT ad h) sz)
/-- the machine in method m -/
def Cx (m : Nat) (p : Program) (s : State) (mi : MethodId) (args : Array Value) (meth : Method) (c : Code) (D : va_G) (aT : Nat → ClassId) (ad : Nat → Nat) (A : Nat → Prop) : Prop :=
  p.tables.exec = Jvm.exec ∧ c.code = (mt m).2.1 ∧ meth.sig.returnType = (mt m).2.2.2 ∧ c.maxLocals = (mt m).2.2.1 ∧ s.vm.findClass (mt m).1.cls = some mi.cls ∧ (∀ w ∈ wsM m, w.before args s = true) ∧ meth.locks = false ∧ (∀ q, s.heap.size ≤ q → A q) ∧ va_K D vwCl (tyA aT) s ∧ Sta ad A s
/-- from this place of the method the machine comes to its end, and the end meets R -/
def At (wd : WD) (d m pc : Nat) (L : AL) (st : List AV) (h : AH) (R : AR) : Prop :=
  ∀ (p : Program) (l : Launch) (e : Env) (s : State) (mi : MethodId) (args : Array Value) (below : List Frame) (meth : Method) (c : Code) (D : va_G) (aT : Nat → ClassId) (ad : Nat → Nat) (A : Nat → Prop) (H : Heap) (locs : List Loc) (ls : Array Slot),
    Cx m p s mi args meth c D aT ad A → va_P D vwCl (wsO wd aT ad h) H → va_D A (wsO wd aT ad h) → va_S A s.heap H locs → okH wd h → okL L → okS st → lvP ad ls (mt m).2.2.1 L →
    W p l e (rmD d) s mi args below meth c H locs 0 0 (MQ below (Qr wd D aT ad A R) args s 0 0 A) (F0 mi pc ls (st.map (cv ad)))
