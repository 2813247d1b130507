section OKI2
variable {wd : WD} {d m pc pc' : Nat} {R : AR} {L : AL} {st st' : List AV} {h : AH} {nx : AL → List AV → AH → Prop} {jp : Nat → AL → List AV → AH → Prop}
abbrev HN (wd : WD) (d m pc2 : Nat) (R : AR) (nx : AL → List AV → AH → Prop) : Prop := ∀ L' st' h', nx L' st' h' → At wd d m pc2 L' st' h' R
theorem ok_push {v : AV} {pc2 : Nat} (hv : okV v) (kit : ∀ (p : Program) (l : Launch) (e : Env) (s : State) (mi : MethodId) (args : Array Value) (below : List Frame) (meth : Method) (c : Code) (ad : Nat → Nat) (H : Heap) (locs : List Loc) (ls : Array Slot) (Q : State → Prop),
      p.tables.exec = Jvm.exec → c.code = (mt m).2.1 → W p l e (rmD d) s mi args below meth c H locs 0 0 Q (F0 mi pc2 ls (cv ad v :: st.map (cv ad))) → W p l e (rmD d) s mi args below meth c H locs 0 0 Q (F0 mi pc ls (st.map (cv ad))))
    (hn : HN wd d m pc2 R nx) (hw : nx L (v :: st) h) : At wd d m pc L st h R :=
  At.go (pc' := pc2) (st' := v :: st) (fun p l e s mi args below meth c ad H locs ls Q hx hb _ _ _ kk => kit p l e s mi args below meth c ad H locs ls Q hx hb kk) (fun hs _ => hs.cons hv) (hn _ _ _ hw)
theorem ok_iconst {n : Int} (hd : decode (mt m).2.1 pc = .ok (.iconst n, 1)) (hr : inR n) (hn : HN wd d m (pc + 1) R nx) (hw : wpP wd R pc L st h nx jp (.iconst n)) : At wd d m pc L st h R :=
  ok_push (v := .inl n) hr (fun p l e s mi args below meth c ad H locs ls Q hx hb kk => lv_iconst hx hb hd rfl kk) hn hw
theorem ok_bipush {n : Int} (hd : decode (mt m).2.1 pc = .ok (.bipush n, 2)) (hr : -128 ≤ n ∧ n < 128) (hn : HN wd d m (pc + 2) R nx) (hw : wpP wd R pc L st h nx jp (.bipush n)) : At wd d m pc L st h R :=
  ok_push (v := .inl n) (by constructor <;> omega) (fun p l e s mi args below meth c ad H locs ls Q hx hb kk => lv_bipush hx hb hd (v := Int32.ofInt n) (by
    rw [← Int32.toInt_inj, Int8.toInt_toInt32, Int8.toInt_ofInt, i32t (by constructor <;> omega)]
    exact Int.bmod_eq_of_le (by simp [Int8.size]; omega) (by simp [Int8.size]; omega)) kk) hn hw
theorem ok_sipush {n : Int} (hd : decode (mt m).2.1 pc = .ok (.sipush n, 3)) (hr : -32768 ≤ n ∧ n < 32768) (hn : HN wd d m (pc + 3) R nx) (hw : wpP wd R pc L st h nx jp (.sipush n)) : At wd d m pc L st h R :=
  ok_push (v := .inl n) (by constructor <;> omega) (fun p l e s mi args below meth c ad H locs ls Q hx hb kk => lv_sipush hx hb hd (v := Int32.ofInt n) (by
    rw [← Int32.toInt_inj, Int16.toInt_toInt32, Int16.toInt_ofInt, i32t (by constructor <;> omega)]
    exact Int.bmod_eq_of_le (by simp [Int16.size]; omega) (by simp [Int16.size]; omega)) kk) hn hw
theorem ok_lconst {n : Fin 2} (hd : decode (mt m).2.1 pc = .ok (.lconst n, 1)) (hn : HN wd d m (pc + 1) R nx) (hw : wpP wd R pc L st h nx jp (.lconst n)) : At wd d m pc L st h R :=
  ok_push (v := .inr (.inl ((n : Nat) : Int))) (by show inJ _; constructor <;> omega) (fun p l e s mi args below meth c ad H locs ls Q hx hb kk => lv_lconst hx hb hd (v := Int64.ofInt ((n : Nat) : Int)) (by rw [← Int64.toInt_inj]; match n with | 0 => rfl | 1 => rfl) kk) hn hw
/-- two ints to one -/
theorem ok_b {f : Int → Int → Int} {op : Int32 → Int32 → Int32} {a b : Int} {pc2 : Nat} (hs2 : st = .inl b :: .inl a :: st')
    (hf : inR a → inR b → inR (f a b)) (he : inR a → inR b → op (Int32.ofInt a) (Int32.ofInt b) = Int32.ofInt (f a b))
    (kit : ∀ (p : Program) (l : Launch) (e : Env) (s : State) (mi : MethodId) (args : Array Value) (below : List Frame) (meth : Method) (c : Code) (H : Heap) (locs : List Loc) (ls : Array Slot) (Q : State → Prop) (rest : List Value) (x y : Int32),
      p.tables.exec = Jvm.exec → c.code = (mt m).2.1 → inR a → inR b → x = Int32.ofInt a → y = Int32.ofInt b → W p l e (rmD d) s mi args below meth c H locs 0 0 Q (F0 mi pc2 ls (.int (op x y) :: rest)) → W p l e (rmD d) s mi args below meth c H locs 0 0 Q (F0 mi pc ls (.int y :: .int x :: rest)))
    (hn : HN wd d m pc2 R nx) (hw : inR a → inR b → nx L (.inl (f a b) :: st') h) : At wd d m pc L st h R := by
  subst hs2
  intro p l e s mi args below meth c D aT ad A H locs ls C hP hD hS hH hL hs hlv
  have hb : inR b := hs.hd
  have ha : inR a := hs.tl.hd
  refine kit p l e s mi args below meth c H locs ls _ (st'.map (cv ad)) (Int32.ofInt a) (Int32.ofInt b) C.1 C.2.1 ha hb rfl rfl ?_
  rw [he ha hb]
  exact hn _ _ _ (hw ha hb) p l e s mi args below meth c D aT ad A H locs ls C hP hD hS hH hL (hs.tl.tl.cons (v := .inl (f a b)) (hf ha hb)) hlv
/-- two longs to one -/
theorem ok_jb {f : Int → Int → Int} {op : Int64 → Int64 → Int64} {a b : Int} {pc2 : Nat} (hs2 : st = .inr (.inl b) :: .inr (.inl a) :: st')
    (hf : inJ a → inJ b → inJ (f a b)) (he : inJ a → inJ b → op (Int64.ofInt a) (Int64.ofInt b) = Int64.ofInt (f a b))
    (kit : ∀ (p : Program) (l : Launch) (e : Env) (s : State) (mi : MethodId) (args : Array Value) (below : List Frame) (meth : Method) (c : Code) (H : Heap) (locs : List Loc) (ls : Array Slot) (Q : State → Prop) (rest : List Value) (x y : Int64),
      p.tables.exec = Jvm.exec → c.code = (mt m).2.1 → inJ a → inJ b → x = Int64.ofInt a → y = Int64.ofInt b → W p l e (rmD d) s mi args below meth c H locs 0 0 Q (F0 mi pc2 ls (.long (op x y) :: rest)) → W p l e (rmD d) s mi args below meth c H locs 0 0 Q (F0 mi pc ls (.long y :: .long x :: rest)))
    (hn : HN wd d m pc2 R nx) (hw : inJ a → inJ b → nx L (.inr (.inl (f a b)) :: st') h) : At wd d m pc L st h R := by
  subst hs2
  intro p l e s mi args below meth c D aT ad A H locs ls C hP hD hS hH hL hs hlv
  have hb : inJ b := hs.hd
  have ha : inJ a := hs.tl.hd
  refine kit p l e s mi args below meth c H locs ls _ (st'.map (cv ad)) (Int64.ofInt a) (Int64.ofInt b) C.1 C.2.1 ha hb rfl rfl ?_
  rw [he ha hb]
  exact hn _ _ _ (hw ha hb) p l e s mi args below meth c D aT ad A H locs ls C hP hD hS hH hL (hs.tl.tl.cons (v := .inr (.inl (f a b))) (hf ha hb)) hlv
theorem p2_spec {f : Int → Int → List AV → Prop} (h : p2 st f) : ∃ a b st', st = .inl b :: .inl a :: st' ∧ f a b st' := by
  match st, h with
  | .inl b :: .inl a :: st', h => exact ⟨a, b, st', rfl, h⟩
theorem p1_spec {f : Int → List AV → Prop} (h : p1 st f) : ∃ a st', st = .inl a :: st' ∧ f a st' := by
  match st, h with
  | .inl a :: st', h => exact ⟨a, st', rfl, h⟩
theorem j1_spec {f : Int → List AV → Prop} (h : j1 st f) : ∃ a st', st = .inr (.inl a) :: st' ∧ f a st' := by
  match st, h with
  | .inr (.inl a) :: st', h => exact ⟨a, st', rfl, h⟩
theorem j2_spec {f : Int → Int → List AV → Prop} (h : j2 st f) : ∃ a b st', st = .inr (.inl b) :: .inr (.inl a) :: st' ∧ f a b st' := by
  match st, h with
  | .inr (.inl b) :: .inr (.inl a) :: st', h => exact ⟨a, b, st', rfl, h⟩
theorem r1_spec {f : Nat → List AV → Prop} (h : r1 st f) : ∃ a st', st = .inr (.inr a) :: st' ∧ f a st' := by
  match st, h with
  | .inr (.inr a) :: st', h => exact ⟨a, st', rfl, h⟩
theorem ir_spec {f : Int → Nat → List AV → Prop} (h : ir st f) : ∃ i k st', st = .inl i :: .inr (.inr k) :: st' ∧ f i k st' := by
  match st, h with
  | .inl i :: .inr (.inr k) :: st', h => exact ⟨i, k, st', rfl, h⟩
theorem iir_spec {f : Int → Int → Nat → List AV → Prop} (h : iir st f) : ∃ x i k st', st = .inl x :: .inl i :: .inr (.inr k) :: st' ∧ f x i k st' := by
  match st, h with
  | .inl x :: .inl i :: .inr (.inr k) :: st', h => exact ⟨x, i, k, st', rfl, h⟩
theorem jir_spec {f : Int → Int → Nat → List AV → Prop} (h : jir st f) : ∃ x i k st', st = .inr (.inl x) :: .inl i :: .inr (.inr k) :: st' ∧ f x i k st' := by
  match st, h with
  | .inr (.inl x) :: .inl i :: .inr (.inr k) :: st', h => exact ⟨x, i, k, st', rfl, h⟩
theorem ok_iadd (hd : decode (mt m).2.1 pc = .ok (.iadd, 1)) (hn : HN wd d m (pc + 1) R nx) (hw : wpP wd R pc L st h nx jp .iadd) : At wd d m pc L st h R := by
  obtain ⟨a, b, st', e, h1, h2⟩ := p2_spec hw
  exact ok_b (f := fun a b => a + b) (op := fun x y => x + y) e (fun _ _ => h1) (fun _ _ => (Int32.ofInt_add a b).symm) (fun p l e s mi args below meth c H locs ls Q rest x y hx hb _ _ _ _ kk => lv_iadd hx hb hd kk) hn (fun _ _ => h2)
theorem ok_isub (hd : decode (mt m).2.1 pc = .ok (.isub, 1)) (hn : HN wd d m (pc + 1) R nx) (hw : wpP wd R pc L st h nx jp .isub) : At wd d m pc L st h R := by
  obtain ⟨a, b, st', e, h1, h2⟩ := p2_spec hw
  exact ok_b (f := fun a b => a - b) (op := fun x y => x - y) e (fun _ _ => h1) (fun _ _ => (Int32.ofInt_sub a b).symm) (fun p l e s mi args below meth c H locs ls Q rest x y hx hb _ _ _ _ kk => lv_isub hx hb hd kk) hn (fun _ _ => h2)
theorem ok_imul (hd : decode (mt m).2.1 pc = .ok (.imul, 1)) (hn : HN wd d m (pc + 1) R nx) (hw : wpP wd R pc L st h nx jp .imul) : At wd d m pc L st h R := by
  obtain ⟨a, b, st', e, h1, h2⟩ := p2_spec hw
  exact ok_b (f := fun a b => a * b) (op := fun x y => x * y) e (fun _ _ => h1) (fun _ _ => (Int32.ofInt_mul a b).symm) (fun p l e s mi args below meth c H locs ls Q rest x y hx hb _ _ _ _ kk => lv_imul hx hb hd kk) hn (fun _ _ => h2)
theorem ok_iand (hd : decode (mt m).2.1 pc = .ok (.iand, 1)) (hn : HN wd d m (pc + 1) R nx) (hw : wpP wd R pc L st h nx jp .iand) : At wd d m pc L st h R := by
  obtain ⟨a, b, st', e, h2⟩ := p2_spec hw
  exact ok_b (f := andI) (op := fun x y => x &&& y) e (fun _ _ => andIR a b) (fun _ _ => (i32o _).symm) (fun p l e s mi args below meth c H locs ls Q rest x y hx hb _ _ _ _ kk => lv_iand hx hb hd kk) hn (fun _ _ => h2)
theorem ok_ior (hd : decode (mt m).2.1 pc = .ok (.ior, 1)) (hn : HN wd d m (pc + 1) R nx) (hw : wpP wd R pc L st h nx jp .ior) : At wd d m pc L st h R := by
  obtain ⟨a, b, st', e, h2⟩ := p2_spec hw
  exact ok_b (f := orI) (op := fun x y => x ||| y) e (fun _ _ => orIR a b) (fun _ _ => (i32o _).symm) (fun p l e s mi args below meth c H locs ls Q rest x y hx hb _ _ _ _ kk => lv_ior hx hb hd kk) hn (fun _ _ => h2)
theorem ok_ishl (hd : decode (mt m).2.1 pc = .ok (.ishl, 1)) (hn : HN wd d m (pc + 1) R nx) (hw : wpP wd R pc L st h nx jp .ishl) : At wd d m pc L st h R := by
  obtain ⟨a, b, st', e, h2⟩ := p2_spec hw
  exact ok_b (f := shlI) (op := fun x y => x <<< (y &&& 31)) e (fun _ _ => shlIR a b) (fun _ _ => (i32o _).symm) (fun p l e s mi args below meth c H locs ls Q rest x y hx hb _ _ _ _ kk => lv_ishl hx hb hd kk) hn (fun _ _ => h2)
theorem ok_ishr (hd : decode (mt m).2.1 pc = .ok (.ishr, 1)) (hn : HN wd d m (pc + 1) R nx) (hw : wpP wd R pc L st h nx jp .ishr) : At wd d m pc L st h R := by
  obtain ⟨a, b, st', e, h2⟩ := p2_spec hw
  exact ok_b (f := shrI) (op := fun x y => x >>> (y &&& 31)) e (fun _ _ => shrIR a b) (fun _ _ => (i32o _).symm) (fun p l e s mi args below meth c H locs ls Q rest x y hx hb _ _ _ _ kk => lv_ishr hx hb hd kk) hn (fun _ _ => h2)
theorem ok_idiv (hd : decode (mt m).2.1 pc = .ok (.idiv, 1)) (hn : HN wd d m (pc + 1) R nx) (hw : wpP wd R pc L st h nx jp .idiv) : At wd d m pc L st h R := by
  obtain ⟨a, b, st', e, ⟨h0, h1⟩, h2⟩ := p2_spec hw
  exact ok_b (f := fun a b => a.tdiv b) (op := fun x y => x / y) e (fun _ _ => h1) (fun ha hb => i32div ha hb h1) (fun p l e s mi args below meth c H locs ls Q rest x y hx hb' _ hb _ ey kk => lv_idiv hx hb' hd (by rw [ey, i32z, i32eq hb inR0]; exact h0) kk) hn (fun _ _ => h2)
theorem ok_irem (hd : decode (mt m).2.1 pc = .ok (.irem, 1)) (hn : HN wd d m (pc + 1) R nx) (hw : wpP wd R pc L st h nx jp .irem) : At wd d m pc L st h R := by
  obtain ⟨a, b, st', e, h0, h2⟩ := p2_spec hw
  exact ok_b (f := fun a b => a.tmod b) (op := fun x y => x - x / y * y) e (fun ha hb => tmodR ha hb h0) (fun ha hb => i32rem ha hb h0) (fun p l e s mi args below meth c H locs ls Q rest x y hx hb' _ hb _ ey kk => lv_irem hx hb' hd (by rw [ey, i32z, i32eq hb inR0]; exact h0) kk) hn (fun _ _ => h2)
theorem ok_ladd (hd : decode (mt m).2.1 pc = .ok (.ladd, 1)) (hn : HN wd d m (pc + 1) R nx) (hw : wpP wd R pc L st h nx jp .ladd) : At wd d m pc L st h R := by
  obtain ⟨a, b, st', e, h1, h2⟩ := j2_spec hw
  exact ok_jb (f := fun a b => a + b) (op := fun x y => x + y) e (fun _ _ => h1) (fun _ _ => (Int64.ofInt_add a b).symm) (fun p l e s mi args below meth c H locs ls Q rest x y hx hb _ _ _ _ kk => lv_ladd hx hb hd kk) hn (fun _ _ => h2)
theorem ok_lsub (hd : decode (mt m).2.1 pc = .ok (.lsub, 1)) (hn : HN wd d m (pc + 1) R nx) (hw : wpP wd R pc L st h nx jp .lsub) : At wd d m pc L st h R := by
  obtain ⟨a, b, st', e, h1, h2⟩ := j2_spec hw
  exact ok_jb (f := fun a b => a - b) (op := fun x y => x - y) e (fun _ _ => h1) (fun _ _ => (Int64.ofInt_sub a b).symm) (fun p l e s mi args below meth c H locs ls Q rest x y hx hb _ _ _ _ kk => lv_lsub hx hb hd kk) hn (fun _ _ => h2)
theorem ok_lmul (hd : decode (mt m).2.1 pc = .ok (.lmul, 1)) (hn : HN wd d m (pc + 1) R nx) (hw : wpP wd R pc L st h nx jp .lmul) : At wd d m pc L st h R := by
  obtain ⟨a, b, st', e, h1, h2⟩ := j2_spec hw
  exact ok_jb (f := fun a b => a * b) (op := fun x y => x * y) e (fun _ _ => h1) (fun _ _ => (Int64.ofInt_mul a b).symm) (fun p l e s mi args below meth c H locs ls Q rest x y hx hb _ _ _ _ kk => lv_lmul hx hb hd kk) hn (fun _ _ => h2)
theorem ok_land (hd : decode (mt m).2.1 pc = .ok (.land, 1)) (hn : HN wd d m (pc + 1) R nx) (hw : wpP wd R pc L st h nx jp .land) : At wd d m pc L st h R := by
  obtain ⟨a, b, st', e, h2⟩ := j2_spec hw
  exact ok_jb (f := andJ) (op := fun x y => x &&& y) e (fun _ _ => andJR a b) (fun _ _ => (i64o _).symm) (fun p l e s mi args below meth c H locs ls Q rest x y hx hb _ _ _ _ kk => lv_land hx hb hd kk) hn (fun _ _ => h2)
theorem ok_lor (hd : decode (mt m).2.1 pc = .ok (.lor, 1)) (hn : HN wd d m (pc + 1) R nx) (hw : wpP wd R pc L st h nx jp .lor) : At wd d m pc L st h R := by
  obtain ⟨a, b, st', e, h2⟩ := j2_spec hw
  exact ok_jb (f := orJ) (op := fun x y => x ||| y) e (fun _ _ => orJR a b) (fun _ _ => (i64o _).symm) (fun p l e s mi args below meth c H locs ls Q rest x y hx hb _ _ _ _ kk => lv_lor hx hb hd kk) hn (fun _ _ => h2)
theorem ok_ldiv (hd : decode (mt m).2.1 pc = .ok (.ldiv, 1)) (hn : HN wd d m (pc + 1) R nx) (hw : wpP wd R pc L st h nx jp .ldiv) : At wd d m pc L st h R := by
  obtain ⟨a, b, st', e, ⟨h0, h1⟩, h2⟩ := j2_spec hw
  exact ok_jb (f := fun a b => a.tdiv b) (op := fun x y => x / y) e (fun _ _ => h1) (fun ha hb => i64div ha hb h1) (fun p l e s mi args below meth c H locs ls Q rest x y hx hb' _ hb _ ey kk => lv_ldiv hx hb' hd (by rw [ey, i64z, i64eq hb inJ0]; exact h0) kk) hn (fun _ _ => h2)
theorem ok_lrem (hd : decode (mt m).2.1 pc = .ok (.lrem, 1)) (hn : HN wd d m (pc + 1) R nx) (hw : wpP wd R pc L st h nx jp .lrem) : At wd d m pc L st h R := by
  obtain ⟨a, b, st', e, h0, h2⟩ := j2_spec hw
  exact ok_jb (f := fun a b => a.tmod b) (op := fun x y => x - x / y * y) e (fun ha hb => tmodJ ha hb h0) (fun ha hb => i64rem ha hb h0) (fun p l e s mi args below meth c H locs ls Q rest x y hx hb' _ hb _ ey kk => lv_lrem hx hb' hd (by rw [ey, i64z, i64eq hb inJ0]; exact h0) kk) hn (fun _ _ => h2)
theorem ok_lcmp (hd : decode (mt m).2.1 pc = .ok (.lcmp, 1)) (hn : HN wd d m (pc + 1) R nx) (hw : wpP wd R pc L st h nx jp .lcmp) : At wd d m pc L st h R := by
  obtain ⟨a, b, st', e, h2⟩ := j2_spec hw
  subst e
  refine At.go (pc' := pc + 1) (st' := .inl (cmpJ a b) :: st') ?_ (fun hs _ => hs.tl.tl.cons (cmpJR a b)) (hn _ _ _ h2)
  intro p l e s mi args below meth c ad H locs ls Q hx hb hs hL hlv kk
  refine W.lcmp hx hb hd ?_
  rw [cmpJv hs.tl.hd hs.hd]
  exact kk
theorem ok_lshl (hd : decode (mt m).2.1 pc = .ok (.lshl, 1)) (hn : HN wd d m (pc + 1) R nx) (hw : wpP wd R pc L st h nx jp .lshl) : At wd d m pc L st h R := by
  match st, hw with
  | .inl b :: .inr (.inl a) :: st', hw =>
    refine At.go (pc' := pc + 1) (st' := .inr (.inl (shlJ a b)) :: st') ?_ (fun hs _ => hs.tl.tl.cons (shlJR a b)) (hn _ _ _ hw)
    intro p l e s mi args below meth c ad H locs ls Q hx hb hs hL hlv kk
    exact lv_lshl hx hb hd (v := Int64.ofInt (shlJ a b)) (i64o _).symm kk
theorem ok_lshr (hd : decode (mt m).2.1 pc = .ok (.lshr, 1)) (hn : HN wd d m (pc + 1) R nx) (hw : wpP wd R pc L st h nx jp .lshr) : At wd d m pc L st h R := by
  match st, hw with
  | .inl b :: .inr (.inl a) :: st', hw =>
    refine At.go (pc' := pc + 1) (st' := .inr (.inl (shrJ a b)) :: st') ?_ (fun hs _ => hs.tl.tl.cons (shrJR a b)) (hn _ _ _ hw)
    intro p l e s mi args below meth c ad H locs ls Q hx hb hs hL hlv kk
    exact lv_lshr hx hb hd (v := Int64.ofInt (shrJ a b)) (i64o _).symm kk
theorem ok_ineg (hd : decode (mt m).2.1 pc = .ok (.ineg, 1)) (hn : HN wd d m (pc + 1) R nx) (hw : wpP wd R pc L st h nx jp .ineg) : At wd d m pc L st h R := by
  obtain ⟨a, st', e, h1, h2⟩ := p1_spec hw
  subst e
  refine At.go (pc' := pc + 1) (st' := .inl (-a) :: st') ?_ (fun hs _ => hs.tl.cons (v := .inl (-a)) h1) (hn _ _ _ h2)
  intro p l e s mi args below meth c ad H locs ls Q hx hb hs hL hlv kk
  refine lv_ineg hx hb hd ?_
  rw [← Int32.ofInt_neg]
  exact kk
theorem ok_i2l (hd : decode (mt m).2.1 pc = .ok (.i2l, 1)) (hn : HN wd d m (pc + 1) R nx) (hw : wpP wd R pc L st h nx jp .i2l) : At wd d m pc L st h R := by
  obtain ⟨a, st', e, h2⟩ := p1_spec hw
  subst e
  refine At.go (pc' := pc + 1) (st' := .inr (.inl a) :: st') ?_ (fun hs _ => hs.tl.cons (v := .inr (.inl a)) (by have := hs.hd; simp only [okV] at this ⊢; constructor <;> omega)) (hn _ _ _ h2)
  intro p l e s mi args below meth c ad H locs ls Q hx hb hs hL hlv kk
  have hr : inR a := hs.hd
  exact lv_i2l hx hb hd (v := Int64.ofInt a) (by rw [← Int64.toInt_inj, Int32.toInt_toInt64, i32t hr, i64t (by constructor <;> omega)]) kk
theorem ok_l2i (hd : decode (mt m).2.1 pc = .ok (.l2i, 1)) (hn : HN wd d m (pc + 1) R nx) (hw : wpP wd R pc L st h nx jp .l2i) : At wd d m pc L st h R := by
  obtain ⟨a, st', e, h1, h2⟩ := j1_spec hw
  subst e
  refine At.go (pc' := pc + 1) (st' := .inl a :: st') ?_ (fun hs _ => hs.tl.cons (v := .inl a) h1) (hn _ _ _ h2)
  intro p l e s mi args below meth c ad H locs ls Q hx hb hs hL hlv kk
  exact lv_l2i hx hb hd (v := Int32.ofInt a) (by rw [← Int32.toInt_inj, Int64.toInt_toInt32, i64t (by constructor <;> omega), i32t h1]; exact Int.bmod_eq_of_le (by simp; omega) (by simp; omega)) kk
theorem ok_i2c (hd : decode (mt m).2.1 pc = .ok (.i2c, 1)) (hn : HN wd d m (pc + 1) R nx) (hw : wpP wd R pc L st h nx jp .i2c) : At wd d m pc L st h R := by
  obtain ⟨a, st', e, h1, h2⟩ := p1_spec hw
  subst e
  refine At.go (pc' := pc + 1) (st' := .inl a :: st') ?_ (fun hs _ => hs) (hn _ _ _ h2)
  intro p l e s mi args below meth c ad H locs ls Q hx hb hs hL hlv kk
  have e1 : Int32.ofInt a = nI a.toNat := by
    rw [← Int32.toInt_inj, i32t (by constructor <;> omega), nI_toInt (by omega)]
    omega
  refine lv_i2c hx hb hd (v := Int32.ofInt a) ?_ kk
  rw [pk_char, e1, pk_tn (by omega)]
  congr 1
  omega
theorem ok_dup (hd : decode (mt m).2.1 pc = .ok (.dup, 1)) (hn : HN wd d m (pc + 1) R nx) (hw : wpP wd R pc L st h nx jp .dup) : At wd d m pc L st h R := by
  match st, hw with
  | .inl z :: st', hw => exact At.go (pc' := pc + 1) (st' := .inl z :: .inl z :: st') (fun p l e s mi args below meth c ad H locs ls Q hx hb hs hL hlv kk => lv_dup hx hb hd rfl kk) (fun hs _ => hs.cons hs.hd) (hn _ _ _ hw)
  | .inr (.inr z) :: st', hw => exact At.go (pc' := pc + 1) (st' := .inr (.inr z) :: .inr (.inr z) :: st') (fun p l e s mi args below meth c ad H locs ls Q hx hb hs hL hlv kk => lv_dup hx hb hd rfl kk) (fun hs _ => hs.cons hs.hd) (hn _ _ _ hw)
theorem ok_dup2 (hd : decode (mt m).2.1 pc = .ok (.dup2, 1)) (hn : HN wd d m (pc + 1) R nx) (hw : wpP wd R pc L st h nx jp .dup2) : At wd d m pc L st h R := by
  match st, hw with
  | .inl z :: .inr (.inr y) :: st', hw => exact At.go (pc' := pc + 1) (st' := .inl z :: .inr (.inr y) :: .inl z :: .inr (.inr y) :: st') (fun p l e s mi args below meth c ad H locs ls Q hx hb hs hL hlv kk => lv_dup2_11 hx hb hd rfl rfl kk) (fun hs _ => (hs.cons hs.tl.hd).cons hs.hd) (hn _ _ _ hw)
end OKI2
