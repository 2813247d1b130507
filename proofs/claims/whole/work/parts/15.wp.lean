/-! a method's text, checked against its bytes; wp over it; wp is sound -/
def ilen : Instr → Nat
  | .bipush _ => 2
  | .iload _ => 2
  | .istore _ => 2
  | .aload _ => 2
  | .astore _ => 2
  | .lload _ => 2
  | .lstore _ => 2
  | .sipush _ => 3
  | .goto _ => 3
  | .if_icmp _ _ => 3
  | .ifCond _ _ => 3
  | .iinc _ _ => 3
  | _ => 1
/-- what is asked of a plain instruction beside its bytes: targets, small numbers, places of locals -/
def iok (nl : Nat) (rt : Option FieldType) (pc : Nat) : Instr → Bool
  | .goto o => decide (0 ≤ (pc : Int) + o)
  | .if_icmp _ o => decide (0 ≤ (pc : Int) + o)
  | .ifCond _ o => decide (0 ≤ (pc : Int) + o)
  | .tableswitch d lo hi os => decide (0 ≤ (pc : Int) + d) && (os.toList.all (fun o => decide (0 ≤ (pc : Int) + o)) && decide (hi - lo < (os.toList.length : Int)))
  | .lookupswitch d ps => decide (0 ≤ (pc : Int) + d) && (ps.toList.all (fun o => decide (0 ≤ (pc : Int) + o.2)) && (ps.toList.zip (ps.toList.drop 1)).all (fun (a, next) => a.1 < next.1))
  | .iconst n => decide (-2147483648 ≤ n ∧ n ≤ 2147483647)
  | .bipush n => decide (-128 ≤ n ∧ n < 128)
  | .sipush n => decide (-32768 ≤ n ∧ n < 32768)
  | .istore k => Nat.blt k nl
  | .istore_n k => Nat.blt k nl
  | .astore k => Nat.blt k nl
  | .astore_n k => Nat.blt k nl
  | .lstore k => Nat.blt (k + 1) nl
  | .lstore_n k => Nat.blt (k + 1) nl
  | .ireturn => decide (rt = some .int)
  | .lreturn => decide (rt = some .long)
  | .areturn => (match rt with
    | some (.object _) => true
    | _ => false)
  | .return_ => decide (rt = none)
  | _ => true
def isSw : Instr → Bool
  | .tableswitch .. => true
  | .lookupswitch .. => true
  | _ => false
def ckI (q : MI) (pc len : Nat) (a : AI) : Bool := match a with
  | .inl i => decide (decode q.2.1 pc = .ok (i, len)) && ((isSw i || len == ilen i) && iok q.2.2.1 q.2.2.2 pc i)
  | .inr (0, idx, x, y, w, _) => len == 3 && (decide (decode q.2.1 pc = .ok (.getfield idx, 3)) && (ckF q.1.cls idx x y w && !isRf x y))
  | .inr (1, idx, x, y, w, _) => len == 3 && (decide (decode q.2.1 pc = .ok (.getfield idx, 3)) && (ckF q.1.cls idx x y w && isRf x y))
  | .inr (2, idx, x, y, w, _) => len == 3 && (decide (decode q.2.1 pc = .ok (.putfield idx, 3)) && (ckF q.1.cls idx x y w && (!isRf x y && (!(fT x y).2.2.2 && decide ((fT x y).2.2.1 = "I")))))
  | .inr (3, idx, x, y, w, _) => len == 3 && (decide (decode q.2.1 pc = .ok (.putfield idx, 3)) && (ckF q.1.cls idx x y w && (!isRf x y && (!(fT x y).2.2.2 && decide ((fT x y).2.2.1 = "Z")))))
  | .inr (4, idx, x, y, w, _) => len == 3 && ckC q.1.cls q.2.1 pc idx x y w
  | .inr (5, idx, _, _, w, z) => len == 3 && (decide (decode q.2.1 pc = .ok (.ldc2_w idx, 3)) && (decide (tg w = some (.constantLong q.1.cls idx (Int64.ofInt z))) && decide (inJ z)))
  | .inr (6, idx, x, _, w, z) => (decide (tg w = some (.constant q.1.cls idx (Int32.ofInt z))) && decide (inR z)) && (if x = 0 then len == 2 && decide (decode q.2.1 pc = .ok (.ldc idx, 2)) else len == 3 && decide (decode q.2.1 pc = .ok (.ldc_w idx, 3)))
  | .inr (7, idx, x, _, _, _) => len == 2 && (decide (decode q.2.1 pc = .ok (.ldc idx, 2)) && (Nat.blt x 175 && (decide ((strs.getD x stD).1 = q.1.cls) && (strs.getD x stD).2.1 == idx)))
  | .inr (8, idx, _, _, w, _) => len == 3 && (decide (decode q.2.1 pc = .ok (.getstatic idx, 3)) && (decide (tg w = some (wFUN q.1.cls idx)) || decide (tg w = some (wFUNn q.1.cls idx))))
  | .inr (10, idx, _, _, w, _) => len == 3 && (decide (decode q.2.1 pc = .ok (.getfield idx, 3)) && decide (tg w = some (wGR q.1.cls idx)))
  | .inr (13, _, _, _, _, _) => len == 1 && decide (decode q.2.1 pc = .ok (.arraylength, 1))
  | .inr (11, _, _, _, _, _) => len == 1 && (decide (decode q.2.1 pc = .ok (.ireturn, 1)) && decide (q.2.2.2 = some .boolean))
  | _ => false
abbrev CD : Type := List (Nat × Nat × AI)
def ckM (q : MI) : CD → Bool
  | [] => true
  | (pc, len, a) :: cs => ckI q pc len a && ((match cs with
    | [] => true
    | (pc', _, _) :: _ => pc' == pc + len) && ckM q cs)
def calD (wd : WD) : Nat → Nat → List AV → AH → AR → Prop
  | 0 => fun _ _ _ _ => False
  | d + 1 => Call wd d
def wpA (wd : WD) (d : Nat) (R : AR) (pc : Nat) (L : AL) (st : List AV) (h : AH) (nx : AL → List AV → AH → Prop) (jp : Nat → AL → List AV → AH → Prop) (a : AI) : Prop := match a with
  | .inl i => wpP wd R pc L st h nx jp i
  | .inr q => wpX wd (calD wd d) R L st h nx q
theorem offs_ge {pc : Nat} {dt : Int} (h0 : 0 ≤ (pc : Int) + dt) : ∀ (ps : List (Int × Int)), (∀ q ∈ ps, 0 ≤ (pc : Int) + q.2) → ∀ z : Int, 0 ≤ (pc : Int) + Op.lookupswitch.offset ps dt z
  | [], _, z => h0
  | q :: ps, h, z => by
    have ih := offs_ge h0 ps (fun q hq => h q (List.mem_cons_of_mem _ hq)) z
    have hq := h q List.mem_cons_self
    simp only [Op.lookupswitch.offset] at *
    split
    · exact hq
    · exact ih
section WPOK
variable {wd : WD} {d m pc len : Nat} {R : AR} {L : AL} {st : List AV} {h : AH} {nx : AL → List AV → AH → Prop} {jp : Nat → AL → List AV → AH → Prop}
theorem wpP_ok {i : Instr} (hc : ckI (mt m) pc len (.inl i) = true) (hn : HN wd d m (pc + len) R nx) (hj : HJ wd d m R jp) (hw : wpP wd R pc L st h nx jp i) : At wd d m pc L st h R := by
  simp only [ckI, Bool.and_eq_true, decide_eq_true_eq, Bool.or_eq_true, beq_iff_eq] at hc
  obtain ⟨hd, hl, hi⟩ := hc
  cases i with
  | aaload => obtain rfl : len = 1 := hl.resolve_left (by simp [isSw]); exact ok_aaload hd hn hw
  | aload k => obtain rfl : len = 2 := hl.resolve_left (by simp [isSw]); exact ok_ldR (Or.inr ⟨hd, rfl⟩) hn hw
  | aload_n k => obtain rfl : len = 1 := hl.resolve_left (by simp [isSw]); exact ok_ldR (Or.inl ⟨k, rfl, hd, rfl⟩) hn hw
  | areturn =>
    obtain rfl : len = 1 := hl.resolve_left (by simp [isSw])
    match hr : (mt m).2.2.2 with
    | some (.object n) => exact ok_areturn hd hr hw
    | none => rw [hr] at hi; cases hi
    | some .int => rw [hr] at hi; cases hi
    | some .long => rw [hr] at hi; cases hi
    | some .boolean => rw [hr] at hi; cases hi
    | some .char => rw [hr] at hi; cases hi
    | some .byte => rw [hr] at hi; cases hi
    | some .short => rw [hr] at hi; cases hi
    | some .float => rw [hr] at hi; cases hi
    | some .double => rw [hr] at hi; cases hi
    | some (.array _) => rw [hr] at hi; cases hi
  | arraylength => obtain rfl : len = 1 := hl.resolve_left (by simp [isSw]); exact ok_arraylength hd hn hw
  | astore k => obtain rfl : len = 2 := hl.resolve_left (by simp [isSw]); exact ok_stR (Nat.blt_eq.mp hi) (Or.inr ⟨hd, rfl⟩) hn hw
  | astore_n k => obtain rfl : len = 1 := hl.resolve_left (by simp [isSw]); exact ok_stR (Nat.blt_eq.mp hi) (Or.inl ⟨k, rfl, hd, rfl⟩) hn hw
  | baload => obtain rfl : len = 1 := hl.resolve_left (by simp [isSw]); exact ok_baload hd hn hw
  | bastore => obtain rfl : len = 1 := hl.resolve_left (by simp [isSw]); exact ok_bastore hd hn hw
  | bipush n => obtain rfl : len = 2 := hl.resolve_left (by simp [isSw]); exact ok_bipush hd (of_decide_eq_true hi) hn hw
  | caload => obtain rfl : len = 1 := hl.resolve_left (by simp [isSw]); exact ok_caload hd hn hw
  | castore => obtain rfl : len = 1 := hl.resolve_left (by simp [isSw]); exact ok_castore hd hn hw
  | dup => obtain rfl : len = 1 := hl.resolve_left (by simp [isSw]); exact ok_dup hd hn hw
  | dup2 => obtain rfl : len = 1 := hl.resolve_left (by simp [isSw]); exact ok_dup2 hd hn hw
  | goto o => obtain rfl : len = 3 := hl.resolve_left (by simp [isSw]); exact ok_goto hd (of_decide_eq_true hi) hj hw
  | i2c => obtain rfl : len = 1 := hl.resolve_left (by simp [isSw]); exact ok_i2c hd hn hw
  | i2l => obtain rfl : len = 1 := hl.resolve_left (by simp [isSw]); exact ok_i2l hd hn hw
  | iadd => obtain rfl : len = 1 := hl.resolve_left (by simp [isSw]); exact ok_iadd hd hn hw
  | iaload => obtain rfl : len = 1 := hl.resolve_left (by simp [isSw]); exact ok_iaload hd hn hw
  | iand => obtain rfl : len = 1 := hl.resolve_left (by simp [isSw]); exact ok_iand hd hn hw
  | iastore => obtain rfl : len = 1 := hl.resolve_left (by simp [isSw]); exact ok_iastore hd hn hw
  | iconst n => obtain rfl : len = 1 := hl.resolve_left (by simp [isSw]); exact ok_iconst hd (of_decide_eq_true hi) hn hw
  | idiv => obtain rfl : len = 1 := hl.resolve_left (by simp [isSw]); exact ok_idiv hd hn hw
  | if_icmp c o => obtain rfl : len = 3 := hl.resolve_left (by simp [isSw]); exact ok_if_icmp hd (of_decide_eq_true hi) hn hj hw
  | ifCond c o => obtain rfl : len = 3 := hl.resolve_left (by simp [isSw]); exact ok_ifCond hd (of_decide_eq_true hi) hn hj hw
  | iinc k n => obtain rfl : len = 3 := hl.resolve_left (by simp [isSw]); exact ok_iinc hd hn hw
  | iload k => obtain rfl : len = 2 := hl.resolve_left (by simp [isSw]); exact ok_ldI (Or.inr ⟨hd, rfl⟩) hn hw
  | iload_n k => obtain rfl : len = 1 := hl.resolve_left (by simp [isSw]); exact ok_ldI (Or.inl ⟨k, rfl, hd, rfl⟩) hn hw
  | imul => obtain rfl : len = 1 := hl.resolve_left (by simp [isSw]); exact ok_imul hd hn hw
  | ineg => obtain rfl : len = 1 := hl.resolve_left (by simp [isSw]); exact ok_ineg hd hn hw
  | ior => obtain rfl : len = 1 := hl.resolve_left (by simp [isSw]); exact ok_ior hd hn hw
  | irem => obtain rfl : len = 1 := hl.resolve_left (by simp [isSw]); exact ok_irem hd hn hw
  | ireturn => obtain rfl : len = 1 := hl.resolve_left (by simp [isSw]); exact ok_ireturn hd (of_decide_eq_true hi) hw
  | ishl => obtain rfl : len = 1 := hl.resolve_left (by simp [isSw]); exact ok_ishl hd hn hw
  | ishr => obtain rfl : len = 1 := hl.resolve_left (by simp [isSw]); exact ok_ishr hd hn hw
  | istore k => obtain rfl : len = 2 := hl.resolve_left (by simp [isSw]); exact ok_stI (Nat.blt_eq.mp hi) (Or.inr ⟨hd, rfl⟩) hn hw
  | istore_n k => obtain rfl : len = 1 := hl.resolve_left (by simp [isSw]); exact ok_stI (Nat.blt_eq.mp hi) (Or.inl ⟨k, rfl, hd, rfl⟩) hn hw
  | isub => obtain rfl : len = 1 := hl.resolve_left (by simp [isSw]); exact ok_isub hd hn hw
  | l2i => obtain rfl : len = 1 := hl.resolve_left (by simp [isSw]); exact ok_l2i hd hn hw
  | ladd => obtain rfl : len = 1 := hl.resolve_left (by simp [isSw]); exact ok_ladd hd hn hw
  | laload => obtain rfl : len = 1 := hl.resolve_left (by simp [isSw]); exact ok_laload hd hn hw
  | land => obtain rfl : len = 1 := hl.resolve_left (by simp [isSw]); exact ok_land hd hn hw
  | lastore => obtain rfl : len = 1 := hl.resolve_left (by simp [isSw]); exact ok_lastore hd hn hw
  | lcmp => obtain rfl : len = 1 := hl.resolve_left (by simp [isSw]); exact ok_lcmp hd hn hw
  | lconst n => obtain rfl : len = 1 := hl.resolve_left (by simp [isSw]); exact ok_lconst hd hn hw
  | ldiv => obtain rfl : len = 1 := hl.resolve_left (by simp [isSw]); exact ok_ldiv hd hn hw
  | lload k => obtain rfl : len = 2 := hl.resolve_left (by simp [isSw]); exact ok_ldJ (Or.inr ⟨hd, rfl⟩) hn hw
  | lload_n k => obtain rfl : len = 1 := hl.resolve_left (by simp [isSw]); exact ok_ldJ (Or.inl ⟨k, rfl, hd, rfl⟩) hn hw
  | lmul => obtain rfl : len = 1 := hl.resolve_left (by simp [isSw]); exact ok_lmul hd hn hw
  | lookupswitch dt ps =>
    simp only [iok, Bool.and_eq_true, decide_eq_true_eq, List.all_eq_true] at hi
    exact ok_lookupswitch hd (List.all_eq_true.mpr (by simpa using hi.2.2)) (offs_ge hi.1 ps.toList hi.2.1) hj hw
  | lor => obtain rfl : len = 1 := hl.resolve_left (by simp [isSw]); exact ok_lor hd hn hw
  | lrem => obtain rfl : len = 1 := hl.resolve_left (by simp [isSw]); exact ok_lrem hd hn hw
  | lreturn => obtain rfl : len = 1 := hl.resolve_left (by simp [isSw]); exact ok_lreturn hd (of_decide_eq_true hi) hw
  | lshl => obtain rfl : len = 1 := hl.resolve_left (by simp [isSw]); exact ok_lshl hd hn hw
  | lshr => obtain rfl : len = 1 := hl.resolve_left (by simp [isSw]); exact ok_lshr hd hn hw
  | lstore k => obtain rfl : len = 2 := hl.resolve_left (by simp [isSw]); exact ok_stJ (Nat.blt_eq.mp hi) (Or.inr ⟨hd, rfl⟩) hn hw
  | lstore_n k => obtain rfl : len = 1 := hl.resolve_left (by simp [isSw]); exact ok_stJ (Nat.blt_eq.mp hi) (Or.inl ⟨k, rfl, hd, rfl⟩) hn hw
  | lsub => obtain rfl : len = 1 := hl.resolve_left (by simp [isSw]); exact ok_lsub hd hn hw
  | return_ => obtain rfl : len = 1 := hl.resolve_left (by simp [isSw]); exact ok_return hd (of_decide_eq_true hi) hw
  | sipush n => obtain rfl : len = 3 := hl.resolve_left (by simp [isSw]); exact ok_sipush hd (of_decide_eq_true hi) hn hw
  | tableswitch dt lo hi' os =>
    simp only [iok, Bool.and_eq_true, decide_eq_true_eq, List.all_eq_true] at hi
    exact ok_tableswitch hd hi.1 hi.2.1 hi.2.2 hj hw
  | _ => exact absurd hw id
end WPOK
