section
-- ===== PART A: goes FIRST, ahead of the names: the tables' words, and 'selects' of the private methods out of them =====
/-- a private method of a class that the tables say can be made, by its rows of tables_1 -/
def lw_okq (q : MethodName × Nat) : Prop := (q.1.cls ≠ "java/lang/invoke/MethodHandle" ∧ q.1.cls ≠ "java/lang/invoke/VarHandle") ∧ Cond.instantiable q.1.cls q.2 ∈ tables_1 ∧ Cond.privateMethod q.1 ∈ tables_1 ∧ Cond.instanceMethod q.1 ∈ tables_1
theorem lw_p0 : lw_okq (⟨"FormulaCode", "putBytes", "(I)V"⟩, 11) := ⟨⟨by decide +kernel, by decide +kernel⟩, List.mem_of_getElem? (i := 19) (by decide +kernel), List.mem_of_getElem? (i := 267) (by decide +kernel), List.mem_of_getElem? (i := 268) (by decide +kernel)⟩
theorem lw_p1 : lw_okq (⟨"FormulaCode", "referencePart", "(III)I"⟩, 11) := ⟨⟨by decide +kernel, by decide +kernel⟩, List.mem_of_getElem? (i := 19) (by decide +kernel), List.mem_of_getElem? (i := 326) (by decide +kernel), List.mem_of_getElem? (i := 327) (by decide +kernel)⟩
theorem lw_p2 : lw_okq (⟨"FormulaCode$Printer", "writeClosing", "(I)V"⟩, 11) := ⟨⟨by decide +kernel, by decide +kernel⟩, List.mem_of_getElem? (i := 183) (by decide +kernel), List.mem_of_getElem? (i := 349) (by decide +kernel), List.mem_of_getElem? (i := 350) (by decide +kernel)⟩
theorem lw_p3 : lw_okq (⟨"FormulaCode$Printer", "putPiece", "()V"⟩, 11) := ⟨⟨by decide +kernel, by decide +kernel⟩, List.mem_of_getElem? (i := 183) (by decide +kernel), List.mem_of_getElem? (i := 410) (by decide +kernel), List.mem_of_getElem? (i := 411) (by decide +kernel)⟩
theorem lw_p4 : lw_okq (⟨"FormulaCode$Printer", "operandsOf", "(I)I"⟩, 11) := ⟨⟨by decide +kernel, by decide +kernel⟩, List.mem_of_getElem? (i := 183) (by decide +kernel), List.mem_of_getElem? (i := 414) (by decide +kernel), List.mem_of_getElem? (i := 415) (by decide +kernel)⟩
theorem lw_p5 : lw_okq (⟨"FormulaCode$Printer", "writeOpening", "(I)V"⟩, 11) := ⟨⟨by decide +kernel, by decide +kernel⟩, List.mem_of_getElem? (i := 183) (by decide +kernel), List.mem_of_getElem? (i := 418) (by decide +kernel), List.mem_of_getElem? (i := 419) (by decide +kernel)⟩
theorem lw_p6 : lw_okq (⟨"FormulaCode$Printer", "writeNumber", "(II)V"⟩, 11) := ⟨⟨by decide +kernel, by decide +kernel⟩, List.mem_of_getElem? (i := 183) (by decide +kernel), List.mem_of_getElem? (i := 422) (by decide +kernel), List.mem_of_getElem? (i := 423) (by decide +kernel)⟩
theorem lw_p7 : lw_okq (⟨"FormulaCode$Printer", "takeDigits", "(J)V"⟩, 11) := ⟨⟨by decide +kernel, by decide +kernel⟩, List.mem_of_getElem? (i := 183) (by decide +kernel), List.mem_of_getElem? (i := 426) (by decide +kernel), List.mem_of_getElem? (i := 427) (by decide +kernel)⟩
theorem lw_p8 : lw_okq (⟨"FormulaCode$Printer", "writeWithExponent", "(I)V"⟩, 11) := ⟨⟨by decide +kernel, by decide +kernel⟩, List.mem_of_getElem? (i := 183) (by decide +kernel), List.mem_of_getElem? (i := 432) (by decide +kernel), List.mem_of_getElem? (i := 433) (by decide +kernel)⟩
theorem lw_p9 : lw_okq (⟨"FormulaCode$Printer", "writeDigits", "(I)V"⟩, 11) := ⟨⟨by decide +kernel, by decide +kernel⟩, List.mem_of_getElem? (i := 183) (by decide +kernel), List.mem_of_getElem? (i := 440) (by decide +kernel), List.mem_of_getElem? (i := 441) (by decide +kernel)⟩
theorem lw_p10 : lw_okq (⟨"FormulaCode$Printer", "writeWithPoint", "(I)V"⟩, 11) := ⟨⟨by decide +kernel, by decide +kernel⟩, List.mem_of_getElem? (i := 183) (by decide +kernel), List.mem_of_getElem? (i := 453) (by decide +kernel), List.mem_of_getElem? (i := 454) (by decide +kernel)⟩
theorem lw_p11 : lw_okq (⟨"FormulaCode$Printer", "writeString", "(II)V"⟩, 11) := ⟨⟨by decide +kernel, by decide +kernel⟩, List.mem_of_getElem? (i := 183) (by decide +kernel), List.mem_of_getElem? (i := 457) (by decide +kernel), List.mem_of_getElem? (i := 458) (by decide +kernel)⟩
theorem lw_p12 : lw_okq (⟨"FormulaCode$Printer", "writeSheet", "(I)V"⟩, 11) := ⟨⟨by decide +kernel, by decide +kernel⟩, List.mem_of_getElem? (i := 183) (by decide +kernel), List.mem_of_getElem? (i := 474) (by decide +kernel), List.mem_of_getElem? (i := 475) (by decide +kernel)⟩
theorem lw_p13 : lw_okq (⟨"FormulaCode$Printer", "writeColumn", "(II)V"⟩, 11) := ⟨⟨by decide +kernel, by decide +kernel⟩, List.mem_of_getElem? (i := 183) (by decide +kernel), List.mem_of_getElem? (i := 486) (by decide +kernel), List.mem_of_getElem? (i := 487) (by decide +kernel)⟩
theorem lw_p14 : lw_okq (⟨"FormulaCode$Printer", "writeRow", "(II)V"⟩, 11) := ⟨⟨by decide +kernel, by decide +kernel⟩, List.mem_of_getElem? (i := 183) (by decide +kernel), List.mem_of_getElem? (i := 491) (by decide +kernel), List.mem_of_getElem? (i := 492) (by decide +kernel)⟩
theorem lw_p15 : lw_okq (⟨"FormulaCode$Printer", "writeRange", "(II)V"⟩, 11) := ⟨⟨by decide +kernel, by decide +kernel⟩, List.mem_of_getElem? (i := 183) (by decide +kernel), List.mem_of_getElem? (i := 495) (by decide +kernel), List.mem_of_getElem? (i := 496) (by decide +kernel)⟩
def lw_privs_1 : List (MethodName × Nat) := [(⟨"FormulaCode", "putBytes", "(I)V"⟩, 11), (⟨"FormulaCode", "referencePart", "(III)I"⟩, 11), (⟨"FormulaCode$Printer", "writeClosing", "(I)V"⟩, 11), (⟨"FormulaCode$Printer", "putPiece", "()V"⟩, 11), (⟨"FormulaCode$Printer", "operandsOf", "(I)I"⟩, 11), (⟨"FormulaCode$Printer", "writeOpening", "(I)V"⟩, 11), (⟨"FormulaCode$Printer", "writeNumber", "(II)V"⟩, 11), (⟨"FormulaCode$Printer", "takeDigits", "(J)V"⟩, 11), (⟨"FormulaCode$Printer", "writeWithExponent", "(I)V"⟩, 11), (⟨"FormulaCode$Printer", "writeDigits", "(I)V"⟩, 11), (⟨"FormulaCode$Printer", "writeWithPoint", "(I)V"⟩, 11), (⟨"FormulaCode$Printer", "writeString", "(II)V"⟩, 11), (⟨"FormulaCode$Printer", "writeSheet", "(I)V"⟩, 11), (⟨"FormulaCode$Printer", "writeColumn", "(II)V"⟩, 11), (⟨"FormulaCode$Printer", "writeRow", "(II)V"⟩, 11), (⟨"FormulaCode$Printer", "writeRange", "(II)V"⟩, 11)]
theorem lw_r1 : ∀ q ∈ lw_privs_1, lw_okq q := List.forall_mem_cons.mpr ⟨lw_p0, List.forall_mem_cons.mpr ⟨lw_p1, List.forall_mem_cons.mpr ⟨lw_p2, List.forall_mem_cons.mpr ⟨lw_p3, List.forall_mem_cons.mpr ⟨lw_p4, List.forall_mem_cons.mpr ⟨lw_p5, List.forall_mem_cons.mpr ⟨lw_p6, List.forall_mem_cons.mpr ⟨lw_p7, List.forall_mem_cons.mpr ⟨lw_p8, List.forall_mem_cons.mpr ⟨lw_p9, List.forall_mem_cons.mpr ⟨lw_p10, List.forall_mem_cons.mpr ⟨lw_p11, List.forall_mem_cons.mpr ⟨lw_p12, List.forall_mem_cons.mpr ⟨lw_p13, List.forall_mem_cons.mpr ⟨lw_p14, List.forall_mem_cons.mpr ⟨lw_p15, fun _ h => absurd h List.not_mem_nil⟩⟩⟩⟩⟩⟩⟩⟩⟩⟩⟩⟩⟩⟩⟩⟩
theorem lw_p16 : lw_okq (⟨"FormulaCode$Printer", "writeName", "(I)V"⟩, 11) := ⟨⟨by decide +kernel, by decide +kernel⟩, List.mem_of_getElem? (i := 183) (by decide +kernel), List.mem_of_getElem? (i := 499) (by decide +kernel), List.mem_of_getElem? (i := 500) (by decide +kernel)⟩
theorem lw_p17 : lw_okq (⟨"FormulaCode$Printer", "writeFunction", "(I)V"⟩, 11) := ⟨⟨by decide +kernel, by decide +kernel⟩, List.mem_of_getElem? (i := 183) (by decide +kernel), List.mem_of_getElem? (i := 520) (by decide +kernel), List.mem_of_getElem? (i := 521) (by decide +kernel)⟩
theorem lw_p18 : lw_okq (⟨"FormulaCode$Printer", "endOperand", "()V"⟩, 11) := ⟨⟨by decide +kernel, by decide +kernel⟩, List.mem_of_getElem? (i := 183) (by decide +kernel), List.mem_of_getElem? (i := 526) (by decide +kernel), List.mem_of_getElem? (i := 527) (by decide +kernel)⟩
theorem lw_p19 : lw_okq (⟨"FormulaCode$Printer", "writeBetween", "(II)V"⟩, 11) := ⟨⟨by decide +kernel, by decide +kernel⟩, List.mem_of_getElem? (i := 183) (by decide +kernel), List.mem_of_getElem? (i := 534) (by decide +kernel), List.mem_of_getElem? (i := 535) (by decide +kernel)⟩
theorem lw_p20 : lw_okq (⟨"java/lang/Throwable", "fillInStackTrace", "(I)Ljava/lang/Throwable;"⟩, 6) := ⟨⟨by decide +kernel, by decide +kernel⟩, List.mem_of_getElem? (i := 609) (by decide +kernel), List.mem_of_getElem? (i := 607) (by decide +kernel), List.mem_of_getElem? (i := 608) (by decide +kernel)⟩
theorem lw_p21 : lw_okq (⟨"FormulaCode$Reader", "skipBlanks", "()V"⟩, 15) := ⟨⟨by decide +kernel, by decide +kernel⟩, List.mem_of_getElem? (i := 129) (by decide +kernel), List.mem_of_getElem? (i := 721) (by decide +kernel), List.mem_of_getElem? (i := 722) (by decide +kernel)⟩
theorem lw_p22 : lw_okq (⟨"FormulaCode$Reader", "readOperand", "()V"⟩, 15) := ⟨⟨by decide +kernel, by decide +kernel⟩, List.mem_of_getElem? (i := 129) (by decide +kernel), List.mem_of_getElem? (i := 725) (by decide +kernel), List.mem_of_getElem? (i := 726) (by decide +kernel)⟩
theorem lw_p23 : lw_okq (⟨"FormulaCode$Reader", "open", "(II)V"⟩, 15) := ⟨⟨by decide +kernel, by decide +kernel⟩, List.mem_of_getElem? (i := 129) (by decide +kernel), List.mem_of_getElem? (i := 730) (by decide +kernel), List.mem_of_getElem? (i := 731) (by decide +kernel)⟩
theorem lw_p24 : lw_okq (⟨"FormulaCode$Reader", "leaveOut", "(I)V"⟩, 15) := ⟨⟨by decide +kernel, by decide +kernel⟩, List.mem_of_getElem? (i := 129) (by decide +kernel), List.mem_of_getElem? (i := 734) (by decide +kernel), List.mem_of_getElem? (i := 735) (by decide +kernel)⟩
theorem lw_p25 : lw_okq (⟨"FormulaCode$Reader", "isInCall", "()Z"⟩, 15) := ⟨⟨by decide +kernel, by decide +kernel⟩, List.mem_of_getElem? (i := 129) (by decide +kernel), List.mem_of_getElem? (i := 738) (by decide +kernel), List.mem_of_getElem? (i := 739) (by decide +kernel)⟩
theorem lw_p26 : lw_okq (⟨"FormulaCode$Reader", "passComma", "()V"⟩, 15) := ⟨⟨by decide +kernel, by decide +kernel⟩, List.mem_of_getElem? (i := 129) (by decide +kernel), List.mem_of_getElem? (i := 746) (by decide +kernel), List.mem_of_getElem? (i := 747) (by decide +kernel)⟩
theorem lw_p27 : lw_okq (⟨"FormulaCode$Reader", "closeCall", "(I)V"⟩, 15) := ⟨⟨by decide +kernel, by decide +kernel⟩, List.mem_of_getElem? (i := 129) (by decide +kernel), List.mem_of_getElem? (i := 751) (by decide +kernel), List.mem_of_getElem? (i := 752) (by decide +kernel)⟩
theorem lw_p28 : lw_okq (⟨"FormulaCode$Reader", "leave", "()V"⟩, 15) := ⟨⟨by decide +kernel, by decide +kernel⟩, List.mem_of_getElem? (i := 129) (by decide +kernel), List.mem_of_getElem? (i := 760) (by decide +kernel), List.mem_of_getElem? (i := 761) (by decide +kernel)⟩
theorem lw_p29 : lw_okq (⟨"FormulaCode$Reader", "endAtom", "()V"⟩, 15) := ⟨⟨by decide +kernel, by decide +kernel⟩, List.mem_of_getElem? (i := 129) (by decide +kernel), List.mem_of_getElem? (i := 765) (by decide +kernel), List.mem_of_getElem? (i := 766) (by decide +kernel)⟩
theorem lw_p30 : lw_okq (⟨"FormulaCode$Reader", "openArray", "()V"⟩, 15) := ⟨⟨by decide +kernel, by decide +kernel⟩, List.mem_of_getElem? (i := 129) (by decide +kernel), List.mem_of_getElem? (i := 769) (by decide +kernel), List.mem_of_getElem? (i := 770) (by decide +kernel)⟩
theorem lw_p31 : lw_okq (⟨"FormulaCode$Reader", "endItem", "(Z)V"⟩, 15) := ⟨⟨by decide +kernel, by decide +kernel⟩, List.mem_of_getElem? (i := 129) (by decide +kernel), List.mem_of_getElem? (i := 785) (by decide +kernel), List.mem_of_getElem? (i := 786) (by decide +kernel)⟩
def lw_privs_2 : List (MethodName × Nat) := [(⟨"FormulaCode$Printer", "writeName", "(I)V"⟩, 11), (⟨"FormulaCode$Printer", "writeFunction", "(I)V"⟩, 11), (⟨"FormulaCode$Printer", "endOperand", "()V"⟩, 11), (⟨"FormulaCode$Printer", "writeBetween", "(II)V"⟩, 11), (⟨"java/lang/Throwable", "fillInStackTrace", "(I)Ljava/lang/Throwable;"⟩, 6), (⟨"FormulaCode$Reader", "skipBlanks", "()V"⟩, 15), (⟨"FormulaCode$Reader", "readOperand", "()V"⟩, 15), (⟨"FormulaCode$Reader", "open", "(II)V"⟩, 15), (⟨"FormulaCode$Reader", "leaveOut", "(I)V"⟩, 15), (⟨"FormulaCode$Reader", "isInCall", "()Z"⟩, 15), (⟨"FormulaCode$Reader", "passComma", "()V"⟩, 15), (⟨"FormulaCode$Reader", "closeCall", "(I)V"⟩, 15), (⟨"FormulaCode$Reader", "leave", "()V"⟩, 15), (⟨"FormulaCode$Reader", "endAtom", "()V"⟩, 15), (⟨"FormulaCode$Reader", "openArray", "()V"⟩, 15), (⟨"FormulaCode$Reader", "endItem", "(Z)V"⟩, 15)]
theorem lw_r2 : ∀ q ∈ lw_privs_2, lw_okq q := List.forall_mem_cons.mpr ⟨lw_p16, List.forall_mem_cons.mpr ⟨lw_p17, List.forall_mem_cons.mpr ⟨lw_p18, List.forall_mem_cons.mpr ⟨lw_p19, List.forall_mem_cons.mpr ⟨lw_p20, List.forall_mem_cons.mpr ⟨lw_p21, List.forall_mem_cons.mpr ⟨lw_p22, List.forall_mem_cons.mpr ⟨lw_p23, List.forall_mem_cons.mpr ⟨lw_p24, List.forall_mem_cons.mpr ⟨lw_p25, List.forall_mem_cons.mpr ⟨lw_p26, List.forall_mem_cons.mpr ⟨lw_p27, List.forall_mem_cons.mpr ⟨lw_p28, List.forall_mem_cons.mpr ⟨lw_p29, List.forall_mem_cons.mpr ⟨lw_p30, List.forall_mem_cons.mpr ⟨lw_p31, fun _ h => absurd h List.not_mem_nil⟩⟩⟩⟩⟩⟩⟩⟩⟩⟩⟩⟩⟩⟩⟩⟩
theorem lw_p32 : lw_okq (⟨"FormulaCode$Reader", "readQuotedSheet", "()V"⟩, 15) := ⟨⟨by decide +kernel, by decide +kernel⟩, List.mem_of_getElem? (i := 129) (by decide +kernel), List.mem_of_getElem? (i := 800) (by decide +kernel), List.mem_of_getElem? (i := 801) (by decide +kernel)⟩
theorem lw_p33 : lw_okq (⟨"FormulaCode$Reader", "readSheetReference", "(II)V"⟩, 15) := ⟨⟨by decide +kernel, by decide +kernel⟩, List.mem_of_getElem? (i := 129) (by decide +kernel), List.mem_of_getElem? (i := 810) (by decide +kernel), List.mem_of_getElem? (i := 811) (by decide +kernel)⟩
theorem lw_p34 : lw_okq (⟨"FormulaCode$Scanner", "writeRange", "(I)V"⟩, 8) := ⟨⟨by decide +kernel, by decide +kernel⟩, List.mem_of_getElem? (i := 69) (by decide +kernel), List.mem_of_getElem? (i := 822) (by decide +kernel), List.mem_of_getElem? (i := 823) (by decide +kernel)⟩
theorem lw_p35 : lw_okq (⟨"FormulaCode$Reader", "readWord", "()V"⟩, 15) := ⟨⟨by decide +kernel, by decide +kernel⟩, List.mem_of_getElem? (i := 129) (by decide +kernel), List.mem_of_getElem? (i := 828) (by decide +kernel), List.mem_of_getElem? (i := 829) (by decide +kernel)⟩
theorem lw_p36 : lw_okq (⟨"FormulaCode$Reader", "nameNumber", "(I)I"⟩, 15) := ⟨⟨by decide +kernel, by decide +kernel⟩, List.mem_of_getElem? (i := 129) (by decide +kernel), List.mem_of_getElem? (i := 838) (by decide +kernel), List.mem_of_getElem? (i := 839) (by decide +kernel)⟩
theorem lw_p37 : lw_okq (⟨"FormulaCode$Scanner", "digitsEnd", "(I)I"⟩, 8) := ⟨⟨by decide +kernel, by decide +kernel⟩, List.mem_of_getElem? (i := 69) (by decide +kernel), List.mem_of_getElem? (i := 851) (by decide +kernel), List.mem_of_getElem? (i := 852) (by decide +kernel)⟩
theorem lw_p38 : lw_okq (⟨"FormulaCode$Scanner", "readExponent", "(I)I"⟩, 8) := ⟨⟨by decide +kernel, by decide +kernel⟩, List.mem_of_getElem? (i := 69) (by decide +kernel), List.mem_of_getElem? (i := 856) (by decide +kernel), List.mem_of_getElem? (i := 857) (by decide +kernel)⟩
theorem lw_p39 : lw_okq (⟨"FormulaCode$Scanner", "writeNumber", "(IIIII)Z"⟩, 8) := ⟨⟨by decide +kernel, by decide +kernel⟩, List.mem_of_getElem? (i := 69) (by decide +kernel), List.mem_of_getElem? (i := 861) (by decide +kernel), List.mem_of_getElem? (i := 862) (by decide +kernel)⟩
theorem lw_p40 : lw_okq (⟨"FormulaCode$Reader", "readOperator", "()V"⟩, 15) := ⟨⟨by decide +kernel, by decide +kernel⟩, List.mem_of_getElem? (i := 129) (by decide +kernel), List.mem_of_getElem? (i := 871) (by decide +kernel), List.mem_of_getElem? (i := 872) (by decide +kernel)⟩
theorem lw_p41 : lw_okq (⟨"FormulaCode$Reader", "endText", "()V"⟩, 15) := ⟨⟨by decide +kernel, by decide +kernel⟩, List.mem_of_getElem? (i := 129) (by decide +kernel), List.mem_of_getElem? (i := 875) (by decide +kernel), List.mem_of_getElem? (i := 876) (by decide +kernel)⟩
theorem lw_p42 : lw_okq (⟨"FormulaCode$Reader", "writeWaiting", "(I)V"⟩, 15) := ⟨⟨by decide +kernel, by decide +kernel⟩, List.mem_of_getElem? (i := 129) (by decide +kernel), List.mem_of_getElem? (i := 879) (by decide +kernel), List.mem_of_getElem? (i := 880) (by decide +kernel)⟩
theorem lw_p43 : lw_okq (⟨"FormulaCode$Reader", "closeBracket", "()V"⟩, 15) := ⟨⟨by decide +kernel, by decide +kernel⟩, List.mem_of_getElem? (i := 129) (by decide +kernel), List.mem_of_getElem? (i := 886) (by decide +kernel), List.mem_of_getElem? (i := 887) (by decide +kernel)⟩
theorem lw_p44 : lw_okq (⟨"FormulaCode$Reader", "joinOperands", "(I)V"⟩, 15) := ⟨⟨by decide +kernel, by decide +kernel⟩, List.mem_of_getElem? (i := 129) (by decide +kernel), List.mem_of_getElem? (i := 893) (by decide +kernel), List.mem_of_getElem? (i := 894) (by decide +kernel)⟩
theorem lw_p45 : lw_okq (⟨"FormulaCode$Reader", "readElement", "()V"⟩, 15) := ⟨⟨by decide +kernel, by decide +kernel⟩, List.mem_of_getElem? (i := 129) (by decide +kernel), List.mem_of_getElem? (i := 899) (by decide +kernel), List.mem_of_getElem? (i := 900) (by decide +kernel)⟩
theorem lw_p46 : lw_okq (⟨"FormulaCode$Reader", "isElement", "(II)Z"⟩, 15) := ⟨⟨by decide +kernel, by decide +kernel⟩, List.mem_of_getElem? (i := 129) (by decide +kernel), List.mem_of_getElem? (i := 903) (by decide +kernel), List.mem_of_getElem? (i := 904) (by decide +kernel)⟩
theorem lw_p47 : lw_okq (⟨"FormulaCode$Reader", "readSeparator", "()V"⟩, 15) := ⟨⟨by decide +kernel, by decide +kernel⟩, List.mem_of_getElem? (i := 129) (by decide +kernel), List.mem_of_getElem? (i := 908) (by decide +kernel), List.mem_of_getElem? (i := 909) (by decide +kernel)⟩
def lw_privs_3 : List (MethodName × Nat) := [(⟨"FormulaCode$Reader", "readQuotedSheet", "()V"⟩, 15), (⟨"FormulaCode$Reader", "readSheetReference", "(II)V"⟩, 15), (⟨"FormulaCode$Scanner", "writeRange", "(I)V"⟩, 8), (⟨"FormulaCode$Reader", "readWord", "()V"⟩, 15), (⟨"FormulaCode$Reader", "nameNumber", "(I)I"⟩, 15), (⟨"FormulaCode$Scanner", "digitsEnd", "(I)I"⟩, 8), (⟨"FormulaCode$Scanner", "readExponent", "(I)I"⟩, 8), (⟨"FormulaCode$Scanner", "writeNumber", "(IIIII)Z"⟩, 8), (⟨"FormulaCode$Reader", "readOperator", "()V"⟩, 15), (⟨"FormulaCode$Reader", "endText", "()V"⟩, 15), (⟨"FormulaCode$Reader", "writeWaiting", "(I)V"⟩, 15), (⟨"FormulaCode$Reader", "closeBracket", "()V"⟩, 15), (⟨"FormulaCode$Reader", "joinOperands", "(I)V"⟩, 15), (⟨"FormulaCode$Reader", "readElement", "()V"⟩, 15), (⟨"FormulaCode$Reader", "isElement", "(II)Z"⟩, 15), (⟨"FormulaCode$Reader", "readSeparator", "()V"⟩, 15)]
theorem lw_r3 : ∀ q ∈ lw_privs_3, lw_okq q := List.forall_mem_cons.mpr ⟨lw_p32, List.forall_mem_cons.mpr ⟨lw_p33, List.forall_mem_cons.mpr ⟨lw_p34, List.forall_mem_cons.mpr ⟨lw_p35, List.forall_mem_cons.mpr ⟨lw_p36, List.forall_mem_cons.mpr ⟨lw_p37, List.forall_mem_cons.mpr ⟨lw_p38, List.forall_mem_cons.mpr ⟨lw_p39, List.forall_mem_cons.mpr ⟨lw_p40, List.forall_mem_cons.mpr ⟨lw_p41, List.forall_mem_cons.mpr ⟨lw_p42, List.forall_mem_cons.mpr ⟨lw_p43, List.forall_mem_cons.mpr ⟨lw_p44, List.forall_mem_cons.mpr ⟨lw_p45, List.forall_mem_cons.mpr ⟨lw_p46, List.forall_mem_cons.mpr ⟨lw_p47, fun _ h => absurd h List.not_mem_nil⟩⟩⟩⟩⟩⟩⟩⟩⟩⟩⟩⟩⟩⟩⟩⟩
theorem lw_p48 : lw_okq (⟨"FormulaCodeModel", "fill", "()V"⟩, 56) := ⟨⟨by decide +kernel, by decide +kernel⟩, List.mem_of_getElem? (i := 924) (by decide +kernel), List.mem_of_getElem? (i := 930) (by decide +kernel), List.mem_of_getElem? (i := 931) (by decide +kernel)⟩
theorem lw_p49 : lw_okq (⟨"FormulaCodeModel", "row", "(IJJII)V"⟩, 56) := ⟨⟨by decide +kernel, by decide +kernel⟩, List.mem_of_getElem? (i := 924) (by decide +kernel), List.mem_of_getElem? (i := 935) (by decide +kernel), List.mem_of_getElem? (i := 936) (by decide +kernel)⟩
theorem lw_p50 : lw_okq (⟨"FormulaCodeModel", "put", "(I)V"⟩, 56) := ⟨⟨by decide +kernel, by decide +kernel⟩, List.mem_of_getElem? (i := 924) (by decide +kernel), List.mem_of_getElem? (i := 1261) (by decide +kernel), List.mem_of_getElem? (i := 1262) (by decide +kernel)⟩
theorem lw_p51 : lw_okq (⟨"FormulaCodeModel", "findSheet", "(I)I"⟩, 56) := ⟨⟨by decide +kernel, by decide +kernel⟩, List.mem_of_getElem? (i := 924) (by decide +kernel), List.mem_of_getElem? (i := 1273) (by decide +kernel), List.mem_of_getElem? (i := 1274) (by decide +kernel)⟩
theorem lw_p52 : lw_okq (⟨"FormulaCodeModel", "isSheet", "(III)Z"⟩, 56) := ⟨⟨by decide +kernel, by decide +kernel⟩, List.mem_of_getElem? (i := 924) (by decide +kernel), List.mem_of_getElem? (i := 1277) (by decide +kernel), List.mem_of_getElem? (i := 1278) (by decide +kernel)⟩
theorem lw_p53 : lw_okq (⟨"FormulaCodeModel", "read", "()V"⟩, 56) := ⟨⟨by decide +kernel, by decide +kernel⟩, List.mem_of_getElem? (i := 924) (by decide +kernel), List.mem_of_getElem? (i := 1288) (by decide +kernel), List.mem_of_getElem? (i := 1289) (by decide +kernel)⟩
theorem lw_p54 : lw_okq (⟨"FormulaCodeModel", "look", "(I)I"⟩, 56) := ⟨⟨by decide +kernel, by decide +kernel⟩, List.mem_of_getElem? (i := 924) (by decide +kernel), List.mem_of_getElem? (i := 1292) (by decide +kernel), List.mem_of_getElem? (i := 1293) (by decide +kernel)⟩
theorem lw_p55 : lw_okq (⟨"FormulaCodeModel", "set", "(IIII)V"⟩, 56) := ⟨⟨by decide +kernel, by decide +kernel⟩, List.mem_of_getElem? (i := 924) (by decide +kernel), List.mem_of_getElem? (i := 1296) (by decide +kernel), List.mem_of_getElem? (i := 1297) (by decide +kernel)⟩
theorem lw_p56 : lw_okq (⟨"FormulaCodeModel", "token", "(II)V"⟩, 56) := ⟨⟨by decide +kernel, by decide +kernel⟩, List.mem_of_getElem? (i := 924) (by decide +kernel), List.mem_of_getElem? (i := 1300) (by decide +kernel), List.mem_of_getElem? (i := 1301) (by decide +kernel)⟩
theorem lw_p57 : lw_okq (⟨"FormulaCodeModel", "wordEnd", "(I)I"⟩, 56) := ⟨⟨by decide +kernel, by decide +kernel⟩, List.mem_of_getElem? (i := 924) (by decide +kernel), List.mem_of_getElem? (i := 1304) (by decide +kernel), List.mem_of_getElem? (i := 1305) (by decide +kernel)⟩
theorem lw_p58 : lw_okq (⟨"FormulaCodeModel", "quotedSheet", "(II)V"⟩, 56) := ⟨⟨by decide +kernel, by decide +kernel⟩, List.mem_of_getElem? (i := 924) (by decide +kernel), List.mem_of_getElem? (i := 1317) (by decide +kernel), List.mem_of_getElem? (i := 1318) (by decide +kernel)⟩
theorem lw_p59 : lw_okq (⟨"FormulaCodeModel", "withSheet", "(IIII)V"⟩, 56) := ⟨⟨by decide +kernel, by decide +kernel⟩, List.mem_of_getElem? (i := 924) (by decide +kernel), List.mem_of_getElem? (i := 1321) (by decide +kernel), List.mem_of_getElem? (i := 1322) (by decide +kernel)⟩
theorem lw_p60 : lw_okq (⟨"FormulaCodeModel", "refers", "(II)Z"⟩, 56) := ⟨⟨by decide +kernel, by decide +kernel⟩, List.mem_of_getElem? (i := 924) (by decide +kernel), List.mem_of_getElem? (i := 1325) (by decide +kernel), List.mem_of_getElem? (i := 1326) (by decide +kernel)⟩
theorem lw_p61 : lw_okq (⟨"FormulaCodeModel", "place", "(II)Z"⟩, 56) := ⟨⟨by decide +kernel, by decide +kernel⟩, List.mem_of_getElem? (i := 924) (by decide +kernel), List.mem_of_getElem? (i := 1329) (by decide +kernel), List.mem_of_getElem? (i := 1330) (by decide +kernel)⟩
theorem lw_p62 : lw_okq (⟨"FormulaCodeModel", "column", "(I)Z"⟩, 56) := ⟨⟨by decide +kernel, by decide +kernel⟩, List.mem_of_getElem? (i := 924) (by decide +kernel), List.mem_of_getElem? (i := 1333) (by decide +kernel), List.mem_of_getElem? (i := 1334) (by decide +kernel)⟩
theorem lw_p63 : lw_okq (⟨"FormulaCodeModel", "line", "(I)Z"⟩, 56) := ⟨⟨by decide +kernel, by decide +kernel⟩, List.mem_of_getElem? (i := 924) (by decide +kernel), List.mem_of_getElem? (i := 1337) (by decide +kernel), List.mem_of_getElem? (i := 1338) (by decide +kernel)⟩
def lw_privs_4 : List (MethodName × Nat) := [(⟨"FormulaCodeModel", "fill", "()V"⟩, 56), (⟨"FormulaCodeModel", "row", "(IJJII)V"⟩, 56), (⟨"FormulaCodeModel", "put", "(I)V"⟩, 56), (⟨"FormulaCodeModel", "findSheet", "(I)I"⟩, 56), (⟨"FormulaCodeModel", "isSheet", "(III)Z"⟩, 56), (⟨"FormulaCodeModel", "read", "()V"⟩, 56), (⟨"FormulaCodeModel", "look", "(I)I"⟩, 56), (⟨"FormulaCodeModel", "set", "(IIII)V"⟩, 56), (⟨"FormulaCodeModel", "token", "(II)V"⟩, 56), (⟨"FormulaCodeModel", "wordEnd", "(I)I"⟩, 56), (⟨"FormulaCodeModel", "quotedSheet", "(II)V"⟩, 56), (⟨"FormulaCodeModel", "withSheet", "(IIII)V"⟩, 56), (⟨"FormulaCodeModel", "refers", "(II)Z"⟩, 56), (⟨"FormulaCodeModel", "place", "(II)Z"⟩, 56), (⟨"FormulaCodeModel", "column", "(I)Z"⟩, 56), (⟨"FormulaCodeModel", "line", "(I)Z"⟩, 56)]
theorem lw_r4 : ∀ q ∈ lw_privs_4, lw_okq q := List.forall_mem_cons.mpr ⟨lw_p48, List.forall_mem_cons.mpr ⟨lw_p49, List.forall_mem_cons.mpr ⟨lw_p50, List.forall_mem_cons.mpr ⟨lw_p51, List.forall_mem_cons.mpr ⟨lw_p52, List.forall_mem_cons.mpr ⟨lw_p53, List.forall_mem_cons.mpr ⟨lw_p54, List.forall_mem_cons.mpr ⟨lw_p55, List.forall_mem_cons.mpr ⟨lw_p56, List.forall_mem_cons.mpr ⟨lw_p57, List.forall_mem_cons.mpr ⟨lw_p58, List.forall_mem_cons.mpr ⟨lw_p59, List.forall_mem_cons.mpr ⟨lw_p60, List.forall_mem_cons.mpr ⟨lw_p61, List.forall_mem_cons.mpr ⟨lw_p62, List.forall_mem_cons.mpr ⟨lw_p63, fun _ h => absurd h List.not_mem_nil⟩⟩⟩⟩⟩⟩⟩⟩⟩⟩⟩⟩⟩⟩⟩⟩
theorem lw_p64 : lw_okq (⟨"FormulaCodeModel", "isAlone", "(I)Z"⟩, 56) := ⟨⟨by decide +kernel, by decide +kernel⟩, List.mem_of_getElem? (i := 924) (by decide +kernel), List.mem_of_getElem? (i := 1342) (by decide +kernel), List.mem_of_getElem? (i := 1343) (by decide +kernel)⟩
theorem lw_p65 : lw_okq (⟨"FormulaCodeModel", "twoColumns", "(II)Z"⟩, 56) := ⟨⟨by decide +kernel, by decide +kernel⟩, List.mem_of_getElem? (i := 924) (by decide +kernel), List.mem_of_getElem? (i := 1346) (by decide +kernel), List.mem_of_getElem? (i := 1347) (by decide +kernel)⟩
theorem lw_p66 : lw_okq (⟨"FormulaCodeModel", "twoLines", "(II)Z"⟩, 56) := ⟨⟨by decide +kernel, by decide +kernel⟩, List.mem_of_getElem? (i := 924) (by decide +kernel), List.mem_of_getElem? (i := 1350) (by decide +kernel), List.mem_of_getElem? (i := 1351) (by decide +kernel)⟩
theorem lw_p67 : lw_okq (⟨"FormulaCodeModel", "string", "(II)V"⟩, 56) := ⟨⟨by decide +kernel, by decide +kernel⟩, List.mem_of_getElem? (i := 924) (by decide +kernel), List.mem_of_getElem? (i := 1354) (by decide +kernel), List.mem_of_getElem? (i := 1355) (by decide +kernel)⟩
theorem lw_p68 : lw_okq (⟨"FormulaCodeModel", "error", "(II)V"⟩, 56) := ⟨⟨by decide +kernel, by decide +kernel⟩, List.mem_of_getElem? (i := 924) (by decide +kernel), List.mem_of_getElem? (i := 1358) (by decide +kernel), List.mem_of_getElem? (i := 1359) (by decide +kernel)⟩
theorem lw_p69 : lw_okq (⟨"FormulaCodeModel", "number", "(II)V"⟩, 56) := ⟨⟨by decide +kernel, by decide +kernel⟩, List.mem_of_getElem? (i := 924) (by decide +kernel), List.mem_of_getElem? (i := 1373) (by decide +kernel), List.mem_of_getElem? (i := 1374) (by decide +kernel)⟩
theorem lw_p70 : lw_okq (⟨"FormulaCodeModel", "exponent", "(II)V"⟩, 56) := ⟨⟨by decide +kernel, by decide +kernel⟩, List.mem_of_getElem? (i := 924) (by decide +kernel), List.mem_of_getElem? (i := 1378) (by decide +kernel), List.mem_of_getElem? (i := 1379) (by decide +kernel)⟩
theorem lw_p71 : lw_okq (⟨"FormulaCodeModel", "mark", "(II)V"⟩, 56) := ⟨⟨by decide +kernel, by decide +kernel⟩, List.mem_of_getElem? (i := 924) (by decide +kernel), List.mem_of_getElem? (i := 1382) (by decide +kernel), List.mem_of_getElem? (i := 1383) (by decide +kernel)⟩
theorem lw_p72 : lw_okq (⟨"FormulaCodeModel", "sign", "(IIII)V"⟩, 56) := ⟨⟨by decide +kernel, by decide +kernel⟩, List.mem_of_getElem? (i := 924) (by decide +kernel), List.mem_of_getElem? (i := 1386) (by decide +kernel), List.mem_of_getElem? (i := 1387) (by decide +kernel)⟩
theorem lw_p73 : lw_okq (⟨"FormulaCodeModel", "check", "()I"⟩, 56) := ⟨⟨by decide +kernel, by decide +kernel⟩, List.mem_of_getElem? (i := 924) (by decide +kernel), List.mem_of_getElem? (i := 1390) (by decide +kernel), List.mem_of_getElem? (i := 1391) (by decide +kernel)⟩
theorem lw_p74 : lw_okq (⟨"FormulaCodeModel", "isIn", "(I)Z"⟩, 56) := ⟨⟨by decide +kernel, by decide +kernel⟩, List.mem_of_getElem? (i := 924) (by decide +kernel), List.mem_of_getElem? (i := 1394) (by decide +kernel), List.mem_of_getElem? (i := 1395) (by decide +kernel)⟩
theorem lw_p75 : lw_okq (⟨"FormulaCodeModel", "element", "(I)Z"⟩, 56) := ⟨⟨by decide +kernel, by decide +kernel⟩, List.mem_of_getElem? (i := 924) (by decide +kernel), List.mem_of_getElem? (i := 1398) (by decide +kernel), List.mem_of_getElem? (i := 1399) (by decide +kernel)⟩
theorem lw_p76 : lw_okq (⟨"FormulaCodeModel", "isTruth", "(I)Z"⟩, 56) := ⟨⟨by decide +kernel, by decide +kernel⟩, List.mem_of_getElem? (i := 924) (by decide +kernel), List.mem_of_getElem? (i := 1402) (by decide +kernel), List.mem_of_getElem? (i := 1403) (by decide +kernel)⟩
theorem lw_p77 : lw_okq (⟨"FormulaCodeModel", "isTrue", "(I)Z"⟩, 56) := ⟨⟨by decide +kernel, by decide +kernel⟩, List.mem_of_getElem? (i := 924) (by decide +kernel), List.mem_of_getElem? (i := 1406) (by decide +kernel), List.mem_of_getElem? (i := 1407) (by decide +kernel)⟩
theorem lw_p78 : lw_okq (⟨"FormulaCodeModel", "packed", "(II)J"⟩, 56) := ⟨⟨by decide +kernel, by decide +kernel⟩, List.mem_of_getElem? (i := 924) (by decide +kernel), List.mem_of_getElem? (i := 1410) (by decide +kernel), List.mem_of_getElem? (i := 1411) (by decide +kernel)⟩
theorem lw_p79 : lw_okq (⟨"FormulaCodeModel", "behindElement", "(I)Z"⟩, 56) := ⟨⟨by decide +kernel, by decide +kernel⟩, List.mem_of_getElem? (i := 924) (by decide +kernel), List.mem_of_getElem? (i := 1416) (by decide +kernel), List.mem_of_getElem? (i := 1417) (by decide +kernel)⟩
def lw_privs_5 : List (MethodName × Nat) := [(⟨"FormulaCodeModel", "isAlone", "(I)Z"⟩, 56), (⟨"FormulaCodeModel", "twoColumns", "(II)Z"⟩, 56), (⟨"FormulaCodeModel", "twoLines", "(II)Z"⟩, 56), (⟨"FormulaCodeModel", "string", "(II)V"⟩, 56), (⟨"FormulaCodeModel", "error", "(II)V"⟩, 56), (⟨"FormulaCodeModel", "number", "(II)V"⟩, 56), (⟨"FormulaCodeModel", "exponent", "(II)V"⟩, 56), (⟨"FormulaCodeModel", "mark", "(II)V"⟩, 56), (⟨"FormulaCodeModel", "sign", "(IIII)V"⟩, 56), (⟨"FormulaCodeModel", "check", "()I"⟩, 56), (⟨"FormulaCodeModel", "isIn", "(I)Z"⟩, 56), (⟨"FormulaCodeModel", "element", "(I)Z"⟩, 56), (⟨"FormulaCodeModel", "isTruth", "(I)Z"⟩, 56), (⟨"FormulaCodeModel", "isTrue", "(I)Z"⟩, 56), (⟨"FormulaCodeModel", "packed", "(II)J"⟩, 56), (⟨"FormulaCodeModel", "behindElement", "(I)Z"⟩, 56)]
theorem lw_r5 : ∀ q ∈ lw_privs_5, lw_okq q := List.forall_mem_cons.mpr ⟨lw_p64, List.forall_mem_cons.mpr ⟨lw_p65, List.forall_mem_cons.mpr ⟨lw_p66, List.forall_mem_cons.mpr ⟨lw_p67, List.forall_mem_cons.mpr ⟨lw_p68, List.forall_mem_cons.mpr ⟨lw_p69, List.forall_mem_cons.mpr ⟨lw_p70, List.forall_mem_cons.mpr ⟨lw_p71, List.forall_mem_cons.mpr ⟨lw_p72, List.forall_mem_cons.mpr ⟨lw_p73, List.forall_mem_cons.mpr ⟨lw_p74, List.forall_mem_cons.mpr ⟨lw_p75, List.forall_mem_cons.mpr ⟨lw_p76, List.forall_mem_cons.mpr ⟨lw_p77, List.forall_mem_cons.mpr ⟨lw_p78, List.forall_mem_cons.mpr ⟨lw_p79, fun _ h => absurd h List.not_mem_nil⟩⟩⟩⟩⟩⟩⟩⟩⟩⟩⟩⟩⟩⟩⟩⟩
theorem lw_p80 : lw_okq (⟨"FormulaCodeModel", "operand", "(I)Z"⟩, 56) := ⟨⟨by decide +kernel, by decide +kernel⟩, List.mem_of_getElem? (i := 924) (by decide +kernel), List.mem_of_getElem? (i := 1420) (by decide +kernel), List.mem_of_getElem? (i := 1421) (by decide +kernel)⟩
theorem lw_p81 : lw_okq (⟨"FormulaCodeModel", "push", "(I)Z"⟩, 56) := ⟨⟨by decide +kernel, by decide +kernel⟩, List.mem_of_getElem? (i := 924) (by decide +kernel), List.mem_of_getElem? (i := 1424) (by decide +kernel), List.mem_of_getElem? (i := 1425) (by decide +kernel)⟩
theorem lw_p82 : lw_okq (⟨"FormulaCodeModel", "comma", "()Z"⟩, 56) := ⟨⟨by decide +kernel, by decide +kernel⟩, List.mem_of_getElem? (i := 924) (by decide +kernel), List.mem_of_getElem? (i := 1428) (by decide +kernel), List.mem_of_getElem? (i := 1429) (by decide +kernel)⟩
theorem lw_p83 : lw_okq (⟨"FormulaCodeModel", "close", "(I)Z"⟩, 56) := ⟨⟨by decide +kernel, by decide +kernel⟩, List.mem_of_getElem? (i := 924) (by decide +kernel), List.mem_of_getElem? (i := 1432) (by decide +kernel), List.mem_of_getElem? (i := 1433) (by decide +kernel)⟩
theorem lw_p84 : lw_okq (⟨"FormulaCodeModel", "function", "(I)I"⟩, 56) := ⟨⟨by decide +kernel, by decide +kernel⟩, List.mem_of_getElem? (i := 924) (by decide +kernel), List.mem_of_getElem? (i := 1436) (by decide +kernel), List.mem_of_getElem? (i := 1437) (by decide +kernel)⟩
theorem lw_p85 : lw_okq (⟨"FormulaCodeModel", "behind", "(I)Z"⟩, 56) := ⟨⟨by decide +kernel, by decide +kernel⟩, List.mem_of_getElem? (i := 924) (by decide +kernel), List.mem_of_getElem? (i := 1440) (by decide +kernel), List.mem_of_getElem? (i := 1441) (by decide +kernel)⟩
theorem lw_p86 : lw_okq (⟨"FormulaCodeModel", "giveNames", "()Z"⟩, 56) := ⟨⟨by decide +kernel, by decide +kernel⟩, List.mem_of_getElem? (i := 924) (by decide +kernel), List.mem_of_getElem? (i := 1444) (by decide +kernel), List.mem_of_getElem? (i := 1445) (by decide +kernel)⟩
theorem lw_p87 : lw_okq (⟨"FormulaCodeModel", "nameOf", "(I)I"⟩, 56) := ⟨⟨by decide +kernel, by decide +kernel⟩, List.mem_of_getElem? (i := 924) (by decide +kernel), List.mem_of_getElem? (i := 1448) (by decide +kernel), List.mem_of_getElem? (i := 1449) (by decide +kernel)⟩
theorem lw_p88 : lw_okq (⟨"FormulaCodeModel", "isName", "(II)Z"⟩, 56) := ⟨⟨by decide +kernel, by decide +kernel⟩, List.mem_of_getElem? (i := 924) (by decide +kernel), List.mem_of_getElem? (i := 1452) (by decide +kernel), List.mem_of_getElem? (i := 1453) (by decide +kernel)⟩
theorem lw_p89 : lw_okq (⟨"FormulaCodeModel", "makeCode", "()V"⟩, 56) := ⟨⟨by decide +kernel, by decide +kernel⟩, List.mem_of_getElem? (i := 924) (by decide +kernel), List.mem_of_getElem? (i := 1456) (by decide +kernel), List.mem_of_getElem? (i := 1457) (by decide +kernel)⟩
theorem lw_p90 : lw_okq (⟨"FormulaCodeModel", "later", "(III)V"⟩, 56) := ⟨⟨by decide +kernel, by decide +kernel⟩, List.mem_of_getElem? (i := 924) (by decide +kernel), List.mem_of_getElem? (i := 1460) (by decide +kernel), List.mem_of_getElem? (i := 1461) (by decide +kernel)⟩
theorem lw_p91 : lw_okq (⟨"FormulaCodeModel", "emit", "(I)V"⟩, 56) := ⟨⟨by decide +kernel, by decide +kernel⟩, List.mem_of_getElem? (i := 924) (by decide +kernel), List.mem_of_getElem? (i := 1464) (by decide +kernel), List.mem_of_getElem? (i := 1465) (by decide +kernel)⟩
theorem lw_p92 : lw_okq (⟨"FormulaCodeModel", "emitCall", "(II)V"⟩, 56) := ⟨⟨by decide +kernel, by decide +kernel⟩, List.mem_of_getElem? (i := 924) (by decide +kernel), List.mem_of_getElem? (i := 1468) (by decide +kernel), List.mem_of_getElem? (i := 1469) (by decide +kernel)⟩
theorem lw_p93 : lw_okq (⟨"FormulaCodeModel", "expression", "(II)V"⟩, 56) := ⟨⟨by decide +kernel, by decide +kernel⟩, List.mem_of_getElem? (i := 924) (by decide +kernel), List.mem_of_getElem? (i := 1472) (by decide +kernel), List.mem_of_getElem? (i := 1473) (by decide +kernel)⟩
theorem lw_p94 : lw_okq (⟨"FormulaCodeModel", "split", "(II)I"⟩, 56) := ⟨⟨by decide +kernel, by decide +kernel⟩, List.mem_of_getElem? (i := 924) (by decide +kernel), List.mem_of_getElem? (i := 1476) (by decide +kernel), List.mem_of_getElem? (i := 1477) (by decide +kernel)⟩
theorem lw_p95 : lw_okq (⟨"FormulaCodeModel", "next", "(I)I"⟩, 56) := ⟨⟨by decide +kernel, by decide +kernel⟩, List.mem_of_getElem? (i := 924) (by decide +kernel), List.mem_of_getElem? (i := 1483) (by decide +kernel), List.mem_of_getElem? (i := 1484) (by decide +kernel)⟩
def lw_privs_6 : List (MethodName × Nat) := [(⟨"FormulaCodeModel", "operand", "(I)Z"⟩, 56), (⟨"FormulaCodeModel", "push", "(I)Z"⟩, 56), (⟨"FormulaCodeModel", "comma", "()Z"⟩, 56), (⟨"FormulaCodeModel", "close", "(I)Z"⟩, 56), (⟨"FormulaCodeModel", "function", "(I)I"⟩, 56), (⟨"FormulaCodeModel", "behind", "(I)Z"⟩, 56), (⟨"FormulaCodeModel", "giveNames", "()Z"⟩, 56), (⟨"FormulaCodeModel", "nameOf", "(I)I"⟩, 56), (⟨"FormulaCodeModel", "isName", "(II)Z"⟩, 56), (⟨"FormulaCodeModel", "makeCode", "()V"⟩, 56), (⟨"FormulaCodeModel", "later", "(III)V"⟩, 56), (⟨"FormulaCodeModel", "emit", "(I)V"⟩, 56), (⟨"FormulaCodeModel", "emitCall", "(II)V"⟩, 56), (⟨"FormulaCodeModel", "expression", "(II)V"⟩, 56), (⟨"FormulaCodeModel", "split", "(II)I"⟩, 56), (⟨"FormulaCodeModel", "next", "(I)I"⟩, 56)]
theorem lw_r6 : ∀ q ∈ lw_privs_6, lw_okq q := List.forall_mem_cons.mpr ⟨lw_p80, List.forall_mem_cons.mpr ⟨lw_p81, List.forall_mem_cons.mpr ⟨lw_p82, List.forall_mem_cons.mpr ⟨lw_p83, List.forall_mem_cons.mpr ⟨lw_p84, List.forall_mem_cons.mpr ⟨lw_p85, List.forall_mem_cons.mpr ⟨lw_p86, List.forall_mem_cons.mpr ⟨lw_p87, List.forall_mem_cons.mpr ⟨lw_p88, List.forall_mem_cons.mpr ⟨lw_p89, List.forall_mem_cons.mpr ⟨lw_p90, List.forall_mem_cons.mpr ⟨lw_p91, List.forall_mem_cons.mpr ⟨lw_p92, List.forall_mem_cons.mpr ⟨lw_p93, List.forall_mem_cons.mpr ⟨lw_p94, List.forall_mem_cons.mpr ⟨lw_p95, fun _ h => absurd h List.not_mem_nil⟩⟩⟩⟩⟩⟩⟩⟩⟩⟩⟩⟩⟩⟩⟩⟩
theorem lw_p96 : lw_okq (⟨"FormulaCodeModel", "call", "(I)V"⟩, 56) := ⟨⟨by decide +kernel, by decide +kernel⟩, List.mem_of_getElem? (i := 924) (by decide +kernel), List.mem_of_getElem? (i := 1487) (by decide +kernel), List.mem_of_getElem? (i := 1488) (by decide +kernel)⟩
theorem lw_p97 : lw_okq (⟨"FormulaCodeModel", "exchange", "(II)V"⟩, 56) := ⟨⟨by decide +kernel, by decide +kernel⟩, List.mem_of_getElem? (i := 924) (by decide +kernel), List.mem_of_getElem? (i := 1491) (by decide +kernel), List.mem_of_getElem? (i := 1492) (by decide +kernel)⟩
theorem lw_p98 : lw_okq (⟨"FormulaCodeModel", "emitArray", "(I)V"⟩, 56) := ⟨⟨by decide +kernel, by decide +kernel⟩, List.mem_of_getElem? (i := 924) (by decide +kernel), List.mem_of_getElem? (i := 1495) (by decide +kernel), List.mem_of_getElem? (i := 1496) (by decide +kernel)⟩
theorem lw_p99 : lw_okq (⟨"FormulaCodeModel", "emitToken", "(IZ)V"⟩, 56) := ⟨⟨by decide +kernel, by decide +kernel⟩, List.mem_of_getElem? (i := 924) (by decide +kernel), List.mem_of_getElem? (i := 1499) (by decide +kernel), List.mem_of_getElem? (i := 1500) (by decide +kernel)⟩
theorem lw_p100 : lw_okq (⟨"FormulaCodeModel", "emitNumber", "(IZ)V"⟩, 56) := ⟨⟨by decide +kernel, by decide +kernel⟩, List.mem_of_getElem? (i := 924) (by decide +kernel), List.mem_of_getElem? (i := 1503) (by decide +kernel), List.mem_of_getElem? (i := 1504) (by decide +kernel)⟩
theorem lw_p101 : lw_okq (⟨"FormulaCodeModel", "emitString", "(I)V"⟩, 56) := ⟨⟨by decide +kernel, by decide +kernel⟩, List.mem_of_getElem? (i := 924) (by decide +kernel), List.mem_of_getElem? (i := 1508) (by decide +kernel), List.mem_of_getElem? (i := 1509) (by decide +kernel)⟩
theorem lw_p102 : lw_okq (⟨"FormulaCodeModel", "emitReference", "(I)V"⟩, 56) := ⟨⟨by decide +kernel, by decide +kernel⟩, List.mem_of_getElem? (i := 924) (by decide +kernel), List.mem_of_getElem? (i := 1512) (by decide +kernel), List.mem_of_getElem? (i := 1513) (by decide +kernel)⟩
theorem lw_p103 : lw_okq (⟨"FormulaCodeModel", "sizeOf", "(I)I"⟩, 56) := ⟨⟨by decide +kernel, by decide +kernel⟩, List.mem_of_getElem? (i := 924) (by decide +kernel), List.mem_of_getElem? (i := 1520) (by decide +kernel), List.mem_of_getElem? (i := 1521) (by decide +kernel)⟩
theorem lw_p104 : lw_okq (⟨"FormulaCodeModel", "findItems", "()V"⟩, 56) := ⟨⟨by decide +kernel, by decide +kernel⟩, List.mem_of_getElem? (i := 924) (by decide +kernel), List.mem_of_getElem? (i := 1528) (by decide +kernel), List.mem_of_getElem? (i := 1529) (by decide +kernel)⟩
theorem lw_p105 : lw_okq (⟨"FormulaCodeModel", "operands", "(I)I"⟩, 56) := ⟨⟨by decide +kernel, by decide +kernel⟩, List.mem_of_getElem? (i := 924) (by decide +kernel), List.mem_of_getElem? (i := 1532) (by decide +kernel), List.mem_of_getElem? (i := 1533) (by decide +kernel)⟩
theorem lw_p106 : lw_okq (⟨"FormulaCodeModel", "out", "(I)V"⟩, 56) := ⟨⟨by decide +kernel, by decide +kernel⟩, List.mem_of_getElem? (i := 924) (by decide +kernel), List.mem_of_getElem? (i := 1536) (by decide +kernel), List.mem_of_getElem? (i := 1537) (by decide +kernel)⟩
theorem lw_p107 : lw_okq (⟨"FormulaCodeModel", "outItem", "(I)V"⟩, 56) := ⟨⟨by decide +kernel, by decide +kernel⟩, List.mem_of_getElem? (i := 924) (by decide +kernel), List.mem_of_getElem? (i := 1540) (by decide +kernel), List.mem_of_getElem? (i := 1541) (by decide +kernel)⟩
theorem lw_p108 : lw_okq (⟨"FormulaCodeModel", "outArray", "(I)V"⟩, 56) := ⟨⟨by decide +kernel, by decide +kernel⟩, List.mem_of_getElem? (i := 924) (by decide +kernel), List.mem_of_getElem? (i := 1544) (by decide +kernel), List.mem_of_getElem? (i := 1545) (by decide +kernel)⟩
theorem lw_p109 : lw_okq (⟨"FormulaCodeModel", "outPlain", "(I)V"⟩, 56) := ⟨⟨by decide +kernel, by decide +kernel⟩, List.mem_of_getElem? (i := 924) (by decide +kernel), List.mem_of_getElem? (i := 1548) (by decide +kernel), List.mem_of_getElem? (i := 1549) (by decide +kernel)⟩
theorem lw_p110 : lw_okq (⟨"FormulaCodeModel", "outDecimal", "(I)V"⟩, 56) := ⟨⟨by decide +kernel, by decide +kernel⟩, List.mem_of_getElem? (i := 924) (by decide +kernel), List.mem_of_getElem? (i := 1552) (by decide +kernel), List.mem_of_getElem? (i := 1553) (by decide +kernel)⟩
theorem lw_p111 : lw_okq (⟨"FormulaCodeModel", "outNumber", "(J)V"⟩, 56) := ⟨⟨by decide +kernel, by decide +kernel⟩, List.mem_of_getElem? (i := 924) (by decide +kernel), List.mem_of_getElem? (i := 1560) (by decide +kernel), List.mem_of_getElem? (i := 1561) (by decide +kernel)⟩
def lw_privs_7 : List (MethodName × Nat) := [(⟨"FormulaCodeModel", "call", "(I)V"⟩, 56), (⟨"FormulaCodeModel", "exchange", "(II)V"⟩, 56), (⟨"FormulaCodeModel", "emitArray", "(I)V"⟩, 56), (⟨"FormulaCodeModel", "emitToken", "(IZ)V"⟩, 56), (⟨"FormulaCodeModel", "emitNumber", "(IZ)V"⟩, 56), (⟨"FormulaCodeModel", "emitString", "(I)V"⟩, 56), (⟨"FormulaCodeModel", "emitReference", "(I)V"⟩, 56), (⟨"FormulaCodeModel", "sizeOf", "(I)I"⟩, 56), (⟨"FormulaCodeModel", "findItems", "()V"⟩, 56), (⟨"FormulaCodeModel", "operands", "(I)I"⟩, 56), (⟨"FormulaCodeModel", "out", "(I)V"⟩, 56), (⟨"FormulaCodeModel", "outItem", "(I)V"⟩, 56), (⟨"FormulaCodeModel", "outArray", "(I)V"⟩, 56), (⟨"FormulaCodeModel", "outPlain", "(I)V"⟩, 56), (⟨"FormulaCodeModel", "outDecimal", "(I)V"⟩, 56), (⟨"FormulaCodeModel", "outNumber", "(J)V"⟩, 56)]
theorem lw_r7 : ∀ q ∈ lw_privs_7, lw_okq q := List.forall_mem_cons.mpr ⟨lw_p96, List.forall_mem_cons.mpr ⟨lw_p97, List.forall_mem_cons.mpr ⟨lw_p98, List.forall_mem_cons.mpr ⟨lw_p99, List.forall_mem_cons.mpr ⟨lw_p100, List.forall_mem_cons.mpr ⟨lw_p101, List.forall_mem_cons.mpr ⟨lw_p102, List.forall_mem_cons.mpr ⟨lw_p103, List.forall_mem_cons.mpr ⟨lw_p104, List.forall_mem_cons.mpr ⟨lw_p105, List.forall_mem_cons.mpr ⟨lw_p106, List.forall_mem_cons.mpr ⟨lw_p107, List.forall_mem_cons.mpr ⟨lw_p108, List.forall_mem_cons.mpr ⟨lw_p109, List.forall_mem_cons.mpr ⟨lw_p110, List.forall_mem_cons.mpr ⟨lw_p111, fun _ h => absurd h List.not_mem_nil⟩⟩⟩⟩⟩⟩⟩⟩⟩⟩⟩⟩⟩⟩⟩⟩
theorem lw_p112 : lw_okq (⟨"FormulaCodeModel", "outString", "(I)V"⟩, 56) := ⟨⟨by decide +kernel, by decide +kernel⟩, List.mem_of_getElem? (i := 924) (by decide +kernel), List.mem_of_getElem? (i := 1565) (by decide +kernel), List.mem_of_getElem? (i := 1566) (by decide +kernel)⟩
theorem lw_p113 : lw_okq (⟨"FormulaCodeModel", "outPacked", "(J)V"⟩, 56) := ⟨⟨by decide +kernel, by decide +kernel⟩, List.mem_of_getElem? (i := 924) (by decide +kernel), List.mem_of_getElem? (i := 1569) (by decide +kernel), List.mem_of_getElem? (i := 1570) (by decide +kernel)⟩
theorem lw_p114 : lw_okq (⟨"FormulaCodeModel", "outReference", "(I)V"⟩, 56) := ⟨⟨by decide +kernel, by decide +kernel⟩, List.mem_of_getElem? (i := 924) (by decide +kernel), List.mem_of_getElem? (i := 1573) (by decide +kernel), List.mem_of_getElem? (i := 1574) (by decide +kernel)⟩
theorem lw_p115 : lw_okq (⟨"FormulaCodeModel", "outSheet", "(I)V"⟩, 56) := ⟨⟨by decide +kernel, by decide +kernel⟩, List.mem_of_getElem? (i := 924) (by decide +kernel), List.mem_of_getElem? (i := 1577) (by decide +kernel), List.mem_of_getElem? (i := 1578) (by decide +kernel)⟩
theorem lw_p116 : lw_okq (⟨"FormulaCodeModel", "isPlain", "(I)Z"⟩, 56) := ⟨⟨by decide +kernel, by decide +kernel⟩, List.mem_of_getElem? (i := 924) (by decide +kernel), List.mem_of_getElem? (i := 1581) (by decide +kernel), List.mem_of_getElem? (i := 1582) (by decide +kernel)⟩
theorem lw_p117 : lw_okq (⟨"FormulaCodeModel", "outPlace", "(IZIZ)V"⟩, 56) := ⟨⟨by decide +kernel, by decide +kernel⟩, List.mem_of_getElem? (i := 924) (by decide +kernel), List.mem_of_getElem? (i := 1585) (by decide +kernel), List.mem_of_getElem? (i := 1586) (by decide +kernel)⟩
theorem lw_p118 : lw_okq (⟨"FormulaCodeModel", "outColumn", "(I)V"⟩, 56) := ⟨⟨by decide +kernel, by decide +kernel⟩, List.mem_of_getElem? (i := 924) (by decide +kernel), List.mem_of_getElem? (i := 1589) (by decide +kernel), List.mem_of_getElem? (i := 1590) (by decide +kernel)⟩
theorem lw_p119 : lw_okq (⟨"FormulaCodeModel", "outName", "(I)V"⟩, 56) := ⟨⟨by decide +kernel, by decide +kernel⟩, List.mem_of_getElem? (i := 924) (by decide +kernel), List.mem_of_getElem? (i := 1593) (by decide +kernel), List.mem_of_getElem? (i := 1594) (by decide +kernel)⟩
theorem lw_p120 : lw_okq (⟨"FormulaCodeModel", "outWord", "(I)V"⟩, 56) := ⟨⟨by decide +kernel, by decide +kernel⟩, List.mem_of_getElem? (i := 924) (by decide +kernel), List.mem_of_getElem? (i := 1597) (by decide +kernel), List.mem_of_getElem? (i := 1598) (by decide +kernel)⟩
theorem lw_p121 : lw_okq (⟨"FormulaCodeModel", "outOperation", "(I)V"⟩, 56) := ⟨⟨by decide +kernel, by decide +kernel⟩, List.mem_of_getElem? (i := 924) (by decide +kernel), List.mem_of_getElem? (i := 1601) (by decide +kernel), List.mem_of_getElem? (i := 1602) (by decide +kernel)⟩
def lw_privs_8 : List (MethodName × Nat) := [(⟨"FormulaCodeModel", "outString", "(I)V"⟩, 56), (⟨"FormulaCodeModel", "outPacked", "(J)V"⟩, 56), (⟨"FormulaCodeModel", "outReference", "(I)V"⟩, 56), (⟨"FormulaCodeModel", "outSheet", "(I)V"⟩, 56), (⟨"FormulaCodeModel", "isPlain", "(I)Z"⟩, 56), (⟨"FormulaCodeModel", "outPlace", "(IZIZ)V"⟩, 56), (⟨"FormulaCodeModel", "outColumn", "(I)V"⟩, 56), (⟨"FormulaCodeModel", "outName", "(I)V"⟩, 56), (⟨"FormulaCodeModel", "outWord", "(I)V"⟩, 56), (⟨"FormulaCodeModel", "outOperation", "(I)V"⟩, 56)]
theorem lw_r8 : ∀ q ∈ lw_privs_8, lw_okq q := List.forall_mem_cons.mpr ⟨lw_p112, List.forall_mem_cons.mpr ⟨lw_p113, List.forall_mem_cons.mpr ⟨lw_p114, List.forall_mem_cons.mpr ⟨lw_p115, List.forall_mem_cons.mpr ⟨lw_p116, List.forall_mem_cons.mpr ⟨lw_p117, List.forall_mem_cons.mpr ⟨lw_p118, List.forall_mem_cons.mpr ⟨lw_p119, List.forall_mem_cons.mpr ⟨lw_p120, List.forall_mem_cons.mpr ⟨lw_p121, fun _ h => absurd h List.not_mem_nil⟩⟩⟩⟩⟩⟩⟩⟩⟩⟩
def lw_privs : List (MethodName × Nat) := lw_privs_1 ++ (lw_privs_2 ++ (lw_privs_3 ++ (lw_privs_4 ++ (lw_privs_5 ++ (lw_privs_6 ++ (lw_privs_7 ++ (lw_privs_8)))))))
def lw_tbl : List Cond := k2_sels lw_privs ++ tables_1
theorem lw_privs_ok : ∀ q ∈ lw_privs, lw_okq q := by
  show ∀ q ∈ lw_privs_1 ++ (lw_privs_2 ++ (lw_privs_3 ++ (lw_privs_4 ++ (lw_privs_5 ++ (lw_privs_6 ++ (lw_privs_7 ++ (lw_privs_8))))))), lw_okq q
  exact List.forall_mem_append.mpr ⟨lw_r1, List.forall_mem_append.mpr ⟨lw_r2, List.forall_mem_append.mpr ⟨lw_r3, List.forall_mem_append.mpr ⟨lw_r4, List.forall_mem_append.mpr ⟨lw_r5, List.forall_mem_append.mpr ⟨lw_r6, List.forall_mem_append.mpr ⟨lw_r7, lw_r8⟩⟩⟩⟩⟩⟩⟩
-- ===== end of PART A; then your names; then what follows =====
end
section
def RX0 : String := "FormulaCode$Function"
def TX0 : u_T := fun k => match k with
  | _ => ("", "", "", false)
def tyX0 : Nat → FieldType := fun k => match k with
  | _ => .int
abbrev wsX00 : List Cond := u_ws RX0 TX0 0
theorem nmX0 : ∀ a, a < 0 → ∀ b, b < 0 → a ≠ b → (TX0 a).2.1 ≠ (TX0 b).2.1 := by decide +kernel
theorem tyX0_ok : ∀ k, k < 0 → parseFieldDescriptor (TX0 k).2.2.1 = some (tyX0 k) := by decide +kernel
abbrev cX0_takes : ByteArray := prog_2_method_4_code
def yX0_takes : MethodName := ⟨RX0, "takes", "(I)Z"⟩
def RX1 : String := "FormulaCode$Printer"
def TX1 : u_T := fun k => match k with
  | 0 => ("FormulaCode$Printer", "code", "LFormulaCode$Row;", true)
  | 1 => ("FormulaCode$Printer", "sheetList", "LFormulaCode$Words;", true)
  | 2 => ("FormulaCode$Printer", "nameList", "LFormulaCode$Words;", true)
  | 3 => ("FormulaCode$Printer", "quotedSheets", "LFormulaCode$Row;", true)
  | 4 => ("FormulaCode$Printer", "begins", "LFormulaCode$Row;", true)
  | 5 => ("FormulaCode$Printer", "open", "LFormulaCode$Row;", true)
  | 6 => ("FormulaCode$Printer", "left", "LFormulaCode$Row;", true)
  | 7 => ("FormulaCode$Printer", "piece", "LFormulaCode$Row;", true)
  | 8 => ("FormulaCode$Printer", "digits", "LFormulaCode$Row;", true)
  | 9 => ("FormulaCode$Printer", "out", "[I", true)
  | _ => ("FormulaCode$Printer", "front", "I", false)
def tyX1 : Nat → FieldType := fun k => match k with
  | 0 => .object "FormulaCode$Row"
  | 1 => .object "FormulaCode$Words"
  | 2 => .object "FormulaCode$Words"
  | 3 => .object "FormulaCode$Row"
  | 4 => .object "FormulaCode$Row"
  | 5 => .object "FormulaCode$Row"
  | 6 => .object "FormulaCode$Row"
  | 7 => .object "FormulaCode$Row"
  | 8 => .object "FormulaCode$Row"
  | 9 => .array .int
  | _ => .int
abbrev wsX10 : List Cond := u_ws RX1 TX1 11
theorem nmX1 : ∀ a, a < 11 → ∀ b, b < 11 → a ≠ b → (TX1 a).2.1 ≠ (TX1 b).2.1 := by decide +kernel
theorem tyX1_ok : ∀ k, k < 11 → parseFieldDescriptor (TX1 k).2.2.1 = some (tyX1 k) := by decide +kernel
abbrev cX1_init : ByteArray := prog_3_method_1_code
def yX1_init : MethodName := ⟨RX1, "<init>", "(LFormulaCode$Row;LFormulaCode$Words;LFormulaCode$Words;LFormulaCode$Row;)V"⟩
abbrev cX1_size : ByteArray := prog_3_method_2_code
def yX1_size : MethodName := ⟨RX1, "size", "()I"⟩
abbrev cX1_letter : ByteArray := prog_3_method_3_code
def yX1_letter : MethodName := ⟨RX1, "letter", "(I)I"⟩
abbrev cX1_run : ByteArray := prog_3_method_4_code
def yX1_run : MethodName := ⟨RX1, "run", "()V"⟩
abbrev cX1_putPiece : ByteArray := prog_3_method_5_code
def yX1_putPiece : MethodName := ⟨RX1, "putPiece", "()V"⟩
abbrev cX1_endOperand : ByteArray := prog_3_method_6_code
def yX1_endOperand : MethodName := ⟨RX1, "endOperand", "()V"⟩
abbrev cX1_operandsOf : ByteArray := prog_3_method_7_code
def yX1_operandsOf : MethodName := ⟨RX1, "operandsOf", "(I)I"⟩
abbrev cX1_writeClosing : ByteArray := prog_3_method_8_code
def yX1_writeClosing : MethodName := ⟨RX1, "writeClosing", "(I)V"⟩
abbrev cX1_writeBetween : ByteArray := prog_3_method_9_code
def yX1_writeBetween : MethodName := ⟨RX1, "writeBetween", "(II)V"⟩
abbrev cX1_writeOpening : ByteArray := prog_3_method_10_code
def yX1_writeOpening : MethodName := ⟨RX1, "writeOpening", "(I)V"⟩
abbrev cX1_writeFunction : ByteArray := prog_3_method_11_code
def yX1_writeFunction : MethodName := ⟨RX1, "writeFunction", "(I)V"⟩
abbrev cX1_writeName : ByteArray := prog_3_method_12_code
def yX1_writeName : MethodName := ⟨RX1, "writeName", "(I)V"⟩
abbrev cX1_writeString : ByteArray := prog_3_method_13_code
def yX1_writeString : MethodName := ⟨RX1, "writeString", "(II)V"⟩
abbrev cX1_writeSheet : ByteArray := prog_3_method_14_code
def yX1_writeSheet : MethodName := ⟨RX1, "writeSheet", "(I)V"⟩
abbrev cX1_writeColumn : ByteArray := prog_3_method_15_code
def yX1_writeColumn : MethodName := ⟨RX1, "writeColumn", "(II)V"⟩
abbrev cX1_writeRow : ByteArray := prog_3_method_16_code
def yX1_writeRow : MethodName := ⟨RX1, "writeRow", "(II)V"⟩
abbrev cX1_writeRange : ByteArray := prog_3_method_17_code
def yX1_writeRange : MethodName := ⟨RX1, "writeRange", "(II)V"⟩
abbrev cX1_writeNumber : ByteArray := prog_3_method_18_code
def yX1_writeNumber : MethodName := ⟨RX1, "writeNumber", "(II)V"⟩
abbrev cX1_takeDigits : ByteArray := prog_3_method_19_code
def yX1_takeDigits : MethodName := ⟨RX1, "takeDigits", "(J)V"⟩
abbrev cX1_writeDigits : ByteArray := prog_3_method_20_code
def yX1_writeDigits : MethodName := ⟨RX1, "writeDigits", "(I)V"⟩
abbrev cX1_writeWithPoint : ByteArray := prog_3_method_21_code
def yX1_writeWithPoint : MethodName := ⟨RX1, "writeWithPoint", "(I)V"⟩
abbrev cX1_writeWithExponent : ByteArray := prog_3_method_22_code
def yX1_writeWithExponent : MethodName := ⟨RX1, "writeWithExponent", "(I)V"⟩
def RX2 : String := "FormulaCode$Reader"
def TX2 : u_T := fun k => match k with
  | 0 => ("FormulaCode$Reader", "text", "LFormulaCode$Row;", true)
  | 1 => ("FormulaCode$Reader", "code", "LFormulaCode$Row;", true)
  | 2 => ("FormulaCode$Reader", "scanner", "LFormulaCode$Scanner;", true)
  | 3 => ("FormulaCode$Reader", "sheetList", "LFormulaCode$Words;", true)
  | 4 => ("FormulaCode$Reader", "nameList", "LFormulaCode$Words;", true)
  | 5 => ("FormulaCode$Reader", "waiting", "LFormulaCode$Row;", true)
  | 6 => ("FormulaCode$Reader", "callees", "LFormulaCode$Row;", true)
  | 7 => ("FormulaCode$Reader", "counts", "LFormulaCode$Row;", true)
  | 8 => ("FormulaCode$Reader", "at", "I", false)
  | 9 => ("FormulaCode$Reader", "ill", "I", false)
  | 10 => ("FormulaCode$Reader", "due", "I", false)
  | 11 => ("FormulaCode$Reader", "elements", "I", false)
  | 12 => ("FormulaCode$Reader", "inRow", "I", false)
  | 13 => ("FormulaCode$Reader", "rows", "I", false)
  | _ => ("FormulaCode$Reader", "columns", "I", false)
def tyX2 : Nat → FieldType := fun k => match k with
  | 0 => .object "FormulaCode$Row"
  | 1 => .object "FormulaCode$Row"
  | 2 => .object "FormulaCode$Scanner"
  | 3 => .object "FormulaCode$Words"
  | 4 => .object "FormulaCode$Words"
  | 5 => .object "FormulaCode$Row"
  | 6 => .object "FormulaCode$Row"
  | 7 => .object "FormulaCode$Row"
  | 8 => .int
  | 9 => .int
  | 10 => .int
  | 11 => .int
  | 12 => .int
  | 13 => .int
  | _ => .int
abbrev wsX20 : List Cond := u_ws RX2 TX2 15
theorem nmX2 : ∀ a, a < 15 → ∀ b, b < 15 → a ≠ b → (TX2 a).2.1 ≠ (TX2 b).2.1 := by decide +kernel
theorem tyX2_ok : ∀ k, k < 15 → parseFieldDescriptor (TX2 k).2.2.1 = some (tyX2 k) := by decide +kernel
abbrev cX2_init : ByteArray := prog_4_method_1_code
def yX2_init : MethodName := ⟨RX2, "<init>", "(LFormulaCode$Row;LFormulaCode$Row;LFormulaCode$Scanner;LFormulaCode$Words;LFormulaCode$Words;)V"⟩
abbrev cX2_readText : ByteArray := prog_4_method_2_code
def yX2_readText : MethodName := ⟨RX2, "readText", "()I"⟩
abbrev cX2_skipBlanks : ByteArray := prog_4_method_3_code
def yX2_skipBlanks : MethodName := ⟨RX2, "skipBlanks", "()V"⟩
abbrev cX2_readOperand : ByteArray := prog_4_method_4_code
def yX2_readOperand : MethodName := ⟨RX2, "readOperand", "()V"⟩
abbrev cX2_endItem : ByteArray := prog_4_method_5_code
def yX2_endItem : MethodName := ⟨RX2, "endItem", "(Z)V"⟩
abbrev cX2_endAtom : ByteArray := prog_4_method_6_code
def yX2_endAtom : MethodName := ⟨RX2, "endAtom", "()V"⟩
abbrev cX2_readQuotedSheet : ByteArray := prog_4_method_7_code
def yX2_readQuotedSheet : MethodName := ⟨RX2, "readQuotedSheet", "()V"⟩
abbrev cX2_readSheetReference : ByteArray := prog_4_method_8_code
def yX2_readSheetReference : MethodName := ⟨RX2, "readSheetReference", "(II)V"⟩
abbrev cX2_readWord : ByteArray := prog_4_method_9_code
def yX2_readWord : MethodName := ⟨RX2, "readWord", "()V"⟩
abbrev cX2_nameNumber : ByteArray := prog_4_method_10_code
def yX2_nameNumber : MethodName := ⟨RX2, "nameNumber", "(I)I"⟩
abbrev cX2_open : ByteArray := prog_4_method_11_code
def yX2_open : MethodName := ⟨RX2, "open", "(II)V"⟩
abbrev cX2_isInCall : ByteArray := prog_4_method_12_code
def yX2_isInCall : MethodName := ⟨RX2, "isInCall", "()Z"⟩
abbrev cX2_leaveOut : ByteArray := prog_4_method_13_code
def yX2_leaveOut : MethodName := ⟨RX2, "leaveOut", "(I)V"⟩
abbrev cX2_passComma : ByteArray := prog_4_method_14_code
def yX2_passComma : MethodName := ⟨RX2, "passComma", "()V"⟩
abbrev cX2_closeCall : ByteArray := prog_4_method_15_code
def yX2_closeCall : MethodName := ⟨RX2, "closeCall", "(I)V"⟩
abbrev cX2_leave : ByteArray := prog_4_method_16_code
def yX2_leave : MethodName := ⟨RX2, "leave", "()V"⟩
abbrev cX2_readOperator : ByteArray := prog_4_method_17_code
def yX2_readOperator : MethodName := ⟨RX2, "readOperator", "()V"⟩
abbrev cX2_endText : ByteArray := prog_4_method_18_code
def yX2_endText : MethodName := ⟨RX2, "endText", "()V"⟩
abbrev cX2_closeBracket : ByteArray := prog_4_method_19_code
def yX2_closeBracket : MethodName := ⟨RX2, "closeBracket", "()V"⟩
abbrev cX2_joinOperands : ByteArray := prog_4_method_20_code
def yX2_joinOperands : MethodName := ⟨RX2, "joinOperands", "(I)V"⟩
abbrev cX2_writeWaiting : ByteArray := prog_4_method_21_code
def yX2_writeWaiting : MethodName := ⟨RX2, "writeWaiting", "(I)V"⟩
abbrev cX2_operationAt : ByteArray := prog_4_method_22_code
def yX2_operationAt : MethodName := ⟨RX2, "operationAt", "(II)I"⟩
abbrev cX2_tightness : ByteArray := prog_4_method_23_code
def yX2_tightness : MethodName := ⟨RX2, "tightness", "(I)I"⟩
abbrev cX2_openArray : ByteArray := prog_4_method_24_code
def yX2_openArray : MethodName := ⟨RX2, "openArray", "()V"⟩
abbrev cX2_readElement : ByteArray := prog_4_method_25_code
def yX2_readElement : MethodName := ⟨RX2, "readElement", "()V"⟩
abbrev cX2_isElement : ByteArray := prog_4_method_26_code
def yX2_isElement : MethodName := ⟨RX2, "isElement", "(II)Z"⟩
abbrev cX2_readSeparator : ByteArray := prog_4_method_27_code
def yX2_readSeparator : MethodName := ⟨RX2, "readSeparator", "()V"⟩
def RX3 : String := "FormulaCode$Row"
def TX3 : u_T := fun k => match k with
  | 0 => ("FormulaCode$Row", "cells", "[I", true)
  | _ => ("FormulaCode$Row", "size", "I", false)
def tyX3 : Nat → FieldType := fun k => match k with
  | 0 => .array .int
  | _ => .int
abbrev wsX30 : List Cond := u_ws RX3 TX3 2
theorem nmX3 : ∀ a, a < 2 → ∀ b, b < 2 → a ≠ b → (TX3 a).2.1 ≠ (TX3 b).2.1 := by decide +kernel
theorem tyX3_ok : ∀ k, k < 2 → parseFieldDescriptor (TX3 k).2.2.1 = some (tyX3 k) := by decide +kernel
abbrev cX3_init : ByteArray := prog_5_method_1_code
def yX3_init : MethodName := ⟨RX3, "<init>", "(I)V"⟩
abbrev cX3_size : ByteArray := prog_5_method_2_code
def yX3_size : MethodName := ⟨RX3, "size", "()I"⟩
abbrev cX3_get : ByteArray := prog_5_method_3_code
def yX3_get : MethodName := ⟨RX3, "get", "(I)I"⟩
abbrev cX3_last : ByteArray := prog_5_method_4_code
def yX3_last : MethodName := ⟨RX3, "last", "()I"⟩
abbrev cX3_add : ByteArray := prog_5_method_5_code
def yX3_add : MethodName := ⟨RX3, "add", "(I)V"⟩
abbrev cX3_changeLast : ByteArray := prog_5_method_6_code
def yX3_changeLast : MethodName := ⟨RX3, "changeLast", "(I)V"⟩
abbrev cX3_addText : ByteArray := prog_5_method_7_code
def yX3_addText : MethodName := ⟨RX3, "addText", "(Ljava/lang/String;)V"⟩
abbrev cX3_addDecimal : ByteArray := prog_5_method_8_code
def yX3_addDecimal : MethodName := ⟨RX3, "addDecimal", "(I)V"⟩
abbrev cX3_cut : ByteArray := prog_5_method_9_code
def yX3_cut : MethodName := ⟨RX3, "cut", "(I)V"⟩
abbrev cX3_dropLast : ByteArray := prog_5_method_10_code
def yX3_dropLast : MethodName := ⟨RX3, "dropLast", "()V"⟩
abbrev cX3_clear : ByteArray := prog_5_method_11_code
def yX3_clear : MethodName := ⟨RX3, "clear", "()V"⟩
abbrev cX3_copy : ByteArray := prog_5_method_12_code
def yX3_copy : MethodName := ⟨RX3, "copy", "(LFormulaCode$Row;)V"⟩
def RX4 : String := "FormulaCode$Scanner"
def TX4 : u_T := fun k => match k with
  | 0 => ("FormulaCode$Scanner", "text", "LFormulaCode$Row;", true)
  | 1 => ("FormulaCode$Scanner", "code", "LFormulaCode$Row;", true)
  | 2 => ("FormulaCode$Scanner", "unfolded", "LFormulaCode$Row;", true)
  | 3 => ("FormulaCode$Scanner", "first", "LFormulaCode$Side;", true)
  | 4 => ("FormulaCode$Scanner", "second", "LFormulaCode$Side;", true)
  | 5 => ("FormulaCode$Scanner", "end", "I", false)
  | 6 => ("FormulaCode$Scanner", "shape", "I", false)
  | _ => ("FormulaCode$Scanner", "isPair", "Z", false)
def tyX4 : Nat → FieldType := fun k => match k with
  | 0 => .object "FormulaCode$Row"
  | 1 => .object "FormulaCode$Row"
  | 2 => .object "FormulaCode$Row"
  | 3 => .object "FormulaCode$Side"
  | 4 => .object "FormulaCode$Side"
  | 5 => .int
  | 6 => .int
  | _ => .boolean
abbrev wsX40 : List Cond := u_ws RX4 TX4 8
theorem nmX4 : ∀ a, a < 8 → ∀ b, b < 8 → a ≠ b → (TX4 a).2.1 ≠ (TX4 b).2.1 := by decide +kernel
theorem tyX4_ok : ∀ k, k < 8 → parseFieldDescriptor (TX4 k).2.2.1 = some (tyX4 k) := by decide +kernel
abbrev cX4_init : ByteArray := prog_6_method_1_code
def yX4_init : MethodName := ⟨RX4, "<init>", "(LFormulaCode$Row;LFormulaCode$Row;)V"⟩
abbrev cX4_behind : ByteArray := prog_6_method_2_code
def yX4_behind : MethodName := ⟨RX4, "behind", "()I"⟩
abbrev cX4_unfolded : ByteArray := prog_6_method_3_code
def yX4_unfolded : MethodName := ⟨RX4, "unfolded", "()LFormulaCode$Row;"⟩
abbrev cX4_needsQuotes : ByteArray := prog_6_method_4_code
def yX4_needsQuotes : MethodName := ⟨RX4, "needsQuotes", "()Z"⟩
abbrev cX4_digitsEnd : ByteArray := prog_6_method_5_code
def yX4_digitsEnd : MethodName := ⟨RX4, "digitsEnd", "(I)I"⟩
abbrev cX4_readNumber : ByteArray := prog_6_method_6_code
def yX4_readNumber : MethodName := ⟨RX4, "readNumber", "(II)Z"⟩
abbrev cX4_readExponent : ByteArray := prog_6_method_7_code
def yX4_readExponent : MethodName := ⟨RX4, "readExponent", "(I)I"⟩
abbrev cX4_writeNumber : ByteArray := prog_6_method_8_code
def yX4_writeNumber : MethodName := ⟨RX4, "writeNumber", "(IIIII)Z"⟩
abbrev cX4_powerAt : ByteArray := prog_6_method_9_code
def yX4_powerAt : MethodName := ⟨RX4, "powerAt", "(II)I"⟩
abbrev cX4_readQuoted : ByteArray := prog_6_method_10_code
def yX4_readQuoted : MethodName := ⟨RX4, "readQuoted", "(I)Z"⟩
abbrev cX4_readString : ByteArray := prog_6_method_11_code
def yX4_readString : MethodName := ⟨RX4, "readString", "(I)Z"⟩
abbrev cX4_readError : ByteArray := prog_6_method_12_code
def yX4_readError : MethodName := ⟨RX4, "readError", "(I)Z"⟩
abbrev cX4_readLogical : ByteArray := prog_6_method_13_code
def yX4_readLogical : MethodName := ⟨RX4, "readLogical", "(II)Z"⟩
abbrev cX4_findReference : ByteArray := prog_6_method_14_code
def yX4_findReference : MethodName := ⟨RX4, "findReference", "(I)Z"⟩
abbrev cX4_writeReference : ByteArray := prog_6_method_15_code
def yX4_writeReference : MethodName := ⟨RX4, "writeReference", "(I)V"⟩
abbrev cX4_writeRange : ByteArray := prog_6_method_16_code
def yX4_writeRange : MethodName := ⟨RX4, "writeRange", "(I)V"⟩
def RX5 : String := "FormulaCode$Side"
def TX5 : u_T := fun k => match k with
  | 0 => ("FormulaCode$Side", "column", "I", false)
  | 1 => ("FormulaCode$Side", "row", "I", false)
  | 2 => ("FormulaCode$Side", "columnFixed", "I", false)
  | 3 => ("FormulaCode$Side", "rowFixed", "I", false)
  | _ => ("FormulaCode$Side", "end", "I", false)
def tyX5 : Nat → FieldType := fun k => match k with
  | 0 => .int
  | 1 => .int
  | 2 => .int
  | 3 => .int
  | _ => .int
abbrev wsX50 : List Cond := u_ws RX5 TX5 5
theorem nmX5 : ∀ a, a < 5 → ∀ b, b < 5 → a ≠ b → (TX5 a).2.1 ≠ (TX5 b).2.1 := by decide +kernel
theorem tyX5_ok : ∀ k, k < 5 → parseFieldDescriptor (TX5 k).2.2.1 = some (tyX5 k) := by decide +kernel
abbrev cX5_init : ByteArray := prog_7_method_1_code
def yX5_init : MethodName := ⟨RX5, "<init>", "()V"⟩
abbrev cX5_isAt : ByteArray := prog_7_method_2_code
def yX5_isAt : MethodName := ⟨RX5, "isAt", "(LFormulaCode$Row;IZZ)Z"⟩
def RX6 : String := "FormulaCode$Words"
def TX6 : u_T := fun k => match k with
  | 0 => ("FormulaCode$Words", "most", "I", true)
  | 1 => ("FormulaCode$Words", "letters", "LFormulaCode$Row;", true)
  | 2 => ("FormulaCode$Words", "bounds", "LFormulaCode$Row;", true)
  | 3 => ("FormulaCode$Words", "kept", "I", false)
  | _ => ("FormulaCode$Words", "overfull", "Z", false)
def tyX6 : Nat → FieldType := fun k => match k with
  | 0 => .int
  | 1 => .object "FormulaCode$Row"
  | 2 => .object "FormulaCode$Row"
  | 3 => .int
  | _ => .boolean
abbrev wsX60 : List Cond := u_ws RX6 TX6 5
theorem nmX6 : ∀ a, a < 5 → ∀ b, b < 5 → a ≠ b → (TX6 a).2.1 ≠ (TX6 b).2.1 := by decide +kernel
theorem tyX6_ok : ∀ k, k < 5 → parseFieldDescriptor (TX6 k).2.2.1 = some (tyX6 k) := by decide +kernel
abbrev cX6_init : ByteArray := prog_8_method_1_code
def yX6_init : MethodName := ⟨RX6, "<init>", "(II)V"⟩
abbrev cX6_count : ByteArray := prog_8_method_2_code
def yX6_count : MethodName := ⟨RX6, "count", "()I"⟩
abbrev cX6_isOverfull : ByteArray := prog_8_method_3_code
def yX6_isOverfull : MethodName := ⟨RX6, "isOverfull", "()Z"⟩
abbrev cX6_length : ByteArray := prog_8_method_4_code
def yX6_length : MethodName := ⟨RX6, "length", "(I)I"⟩
abbrev cX6_letter : ByteArray := prog_8_method_5_code
def yX6_letter : MethodName := ⟨RX6, "letter", "(II)I"⟩
abbrev cX6_find : ByteArray := prog_8_method_6_code
def yX6_find : MethodName := ⟨RX6, "find", "(LFormulaCode$Row;II)I"⟩
abbrev cX6_add : ByteArray := prog_8_method_7_code
def yX6_add : MethodName := ⟨RX6, "add", "(LFormulaCode$Row;II)I"⟩
abbrev cX6_keep : ByteArray := prog_8_method_8_code
def yX6_keep : MethodName := ⟨RX6, "keep", "()V"⟩
abbrev cX6_forget : ByteArray := prog_8_method_9_code
def yX6_forget : MethodName := ⟨RX6, "forget", "()V"⟩
def RX7 : String := "FormulaCode"
def TX7 : u_T := fun k => match k with
  | 0 => ("FormulaCode", "tape", "LFormulaCode$Row;", true)
  | 1 => ("FormulaCode", "text", "LFormulaCode$Row;", true)
  | 2 => ("FormulaCode", "sheetList", "LFormulaCode$Words;", true)
  | 3 => ("FormulaCode", "nameList", "LFormulaCode$Words;", true)
  | 4 => ("FormulaCode", "quotedSheets", "LFormulaCode$Row;", true)
  | 5 => ("FormulaCode", "code", "LFormulaCode$Row;", true)
  | 6 => ("FormulaCode", "draft", "LFormulaCode$Row;", true)
  | 7 => ("FormulaCode", "scanner", "LFormulaCode$Scanner;", true)
  | 8 => ("FormulaCode", "reader", "LFormulaCode$Reader;", true)
  | 9 => ("FormulaCode", "printer", "LFormulaCode$Printer;", true)
  | _ => ("FormulaCode", "illPlace", "I", false)
def tyX7 : Nat → FieldType := fun k => match k with
  | 0 => .object "FormulaCode$Row"
  | 1 => .object "FormulaCode$Row"
  | 2 => .object "FormulaCode$Words"
  | 3 => .object "FormulaCode$Words"
  | 4 => .object "FormulaCode$Row"
  | 5 => .object "FormulaCode$Row"
  | 6 => .object "FormulaCode$Row"
  | 7 => .object "FormulaCode$Scanner"
  | 8 => .object "FormulaCode$Reader"
  | 9 => .object "FormulaCode$Printer"
  | _ => .int
abbrev wsX70 : List Cond := u_ws RX7 TX7 11
theorem nmX7 : ∀ a, a < 11 → ∀ b, b < 11 → a ≠ b → (TX7 a).2.1 ≠ (TX7 b).2.1 := by decide +kernel
theorem tyX7_ok : ∀ k, k < 11 → parseFieldDescriptor (TX7 k).2.2.1 = some (tyX7 k) := by decide +kernel
abbrev cX7_init : ByteArray := prog_1_method_1_code
def yX7_init : MethodName := ⟨RX7, "<init>", "()V"⟩
abbrev cX7_feed : ByteArray := prog_1_method_2_code
def yX7_feed : MethodName := ⟨RX7, "feed", "(IIIII)Z"⟩
abbrev cX7_putBytes : ByteArray := prog_1_method_3_code
def yX7_putBytes : MethodName := ⟨RX7, "putBytes", "(I)V"⟩
abbrev cX7_end : ByteArray := prog_1_method_4_code
def yX7_end : MethodName := ⟨RX7, "end", "(I)Z"⟩
abbrev cX7_sheet : ByteArray := prog_1_method_5_code
def yX7_sheet : MethodName := ⟨RX7, "sheet", "()I"⟩
abbrev cX7_compile : ByteArray := prog_1_method_6_code
def yX7_compile : MethodName := ⟨RX7, "compile", "()I"⟩
abbrev cX7_illAt : ByteArray := prog_1_method_7_code
def yX7_illAt : MethodName := ⟨RX7, "illAt", "()I"⟩
abbrev cX7_word : ByteArray := prog_1_method_8_code
def yX7_word : MethodName := ⟨RX7, "word", "(I)I"⟩
abbrev cX7_names : ByteArray := prog_1_method_9_code
def yX7_names : MethodName := ⟨RX7, "names", "()I"⟩
abbrev cX7_name : ByteArray := prog_1_method_10_code
def yX7_name : MethodName := ⟨RX7, "name", "(II)I"⟩
abbrev cX7_reference : ByteArray := prog_1_method_11_code
def yX7_reference : MethodName := ⟨RX7, "reference", "(II)I"⟩
abbrev cX7_referencePart : ByteArray := prog_1_method_12_code
def yX7_referencePart : MethodName := ⟨RX7, "referencePart", "(III)I"⟩
abbrev cX7_print : ByteArray := prog_1_method_13_code
def yX7_print : MethodName := ⟨RX7, "print", "()I"⟩
abbrev cX7_output : ByteArray := prog_1_method_14_code
def yX7_output : MethodName := ⟨RX7, "output", "(I)I"⟩
abbrev cX7_again : ByteArray := prog_1_method_15_code
def yX7_again : MethodName := ⟨RX7, "again", "()V"⟩
abbrev cX7_isPlain : ByteArray := prog_1_method_16_code
def yX7_isPlain : MethodName := ⟨RX7, "isPlain", "(LFormulaCode$Row;)Z"⟩
abbrev cX7_isDigit : ByteArray := prog_1_method_17_code
def yX7_isDigit : MethodName := ⟨RX7, "isDigit", "(I)Z"⟩
abbrev cX7_isLetter : ByteArray := prog_1_method_18_code
def yX7_isLetter : MethodName := ⟨RX7, "isLetter", "(I)Z"⟩
abbrev cX7_isWordPart : ByteArray := prog_1_method_19_code
def yX7_isWordPart : MethodName := ⟨RX7, "isWordPart", "(I)Z"⟩
abbrev cX7_capital : ByteArray := prog_1_method_20_code
def yX7_capital : MethodName := ⟨RX7, "capital", "(I)I"⟩
abbrev cX7_wordEnd : ByteArray := prog_1_method_21_code
def yX7_wordEnd : MethodName := ⟨RX7, "wordEnd", "(LFormulaCode$Row;I)I"⟩
abbrev cX7_startsWith : ByteArray := prog_1_method_22_code
def yX7_startsWith : MethodName := ⟨RX7, "startsWith", "(LFormulaCode$Row;ILjava/lang/String;)Z"⟩
abbrev cX7_isSame : ByteArray := prog_1_method_23_code
def yX7_isSame : MethodName := ⟨RX7, "isSame", "(LFormulaCode$Row;IILjava/lang/String;)Z"⟩
abbrev cX7_functionNumber : ByteArray := prog_1_method_24_code
def yX7_functionNumber : MethodName := ⟨RX7, "functionNumber", "(LFormulaCode$Row;II)I"⟩
abbrev cX7_errorText : ByteArray := prog_1_method_25_code
def yX7_errorText : MethodName := ⟨RX7, "errorText", "(I)Ljava/lang/String;"⟩
abbrev cX7_operationText : ByteArray := prog_1_method_26_code
def yX7_operationText : MethodName := ⟨RX7, "operationText", "(I)Ljava/lang/String;"⟩
abbrev cX7_item : ByteArray := prog_1_method_27_code
def yX7_item : MethodName := ⟨RX7, "item", "(II)I"⟩
abbrev cX7_kindOf : ByteArray := prog_1_method_28_code
def yX7_kindOf : MethodName := ⟨RX7, "kindOf", "(I)I"⟩
abbrev cX7_xOf : ByteArray := prog_1_method_29_code
def yX7_xOf : MethodName := ⟨RX7, "xOf", "(I)I"⟩
abbrev cX7_itemSize : ByteArray := prog_1_method_30_code
def yX7_itemSize : MethodName := ⟨RX7, "itemSize", "(I)I"⟩
def RX8 : String := "FormulaCodeModel"
def TX8 : u_T := fun k => match k with
  | 0 => ("FormulaCodeModel", "code", "I", false)
  | 1 => ("FormulaCodeModel", "tape", "[I", true)
  | 2 => ("FormulaCodeModel", "fed", "I", false)
  | 3 => ("FormulaCodeModel", "text", "[I", true)
  | 4 => ("FormulaCodeModel", "size", "I", false)
  | 5 => ("FormulaCodeModel", "illAt", "I", false)
  | 6 => ("FormulaCodeModel", "sheets", "I", false)
  | 7 => ("FormulaCodeModel", "sheetSize", "[I", true)
  | 8 => ("FormulaCodeModel", "sheetText", "[I", true)
  | 9 => ("FormulaCodeModel", "names", "I", false)
  | 10 => ("FormulaCodeModel", "nameSize", "[I", true)
  | 11 => ("FormulaCodeModel", "nameText", "[I", true)
  | 12 => ("FormulaCodeModel", "first", "[J", true)
  | 13 => ("FormulaCodeModel", "second", "[J", true)
  | 14 => ("FormulaCodeModel", "least", "[I", true)
  | 15 => ("FormulaCodeModel", "greatest", "[I", true)
  | 16 => ("FormulaCodeModel", "tokens", "I", false)
  | 17 => ("FormulaCodeModel", "what", "[I", true)
  | 18 => ("FormulaCodeModel", "at", "[I", true)
  | 19 => ("FormulaCodeModel", "end", "[I", true)
  | 20 => ("FormulaCodeModel", "arg", "[I", true)
  | 21 => ("FormulaCodeModel", "joins", "[Z", true)
  | 22 => ("FormulaCodeModel", "closes", "[I", true)
  | 23 => ("FormulaCodeModel", "digits", "[J", true)
  | 24 => ("FormulaCodeModel", "power", "[I", true)
  | 25 => ("FormulaCodeModel", "name", "[I", true)
  | 26 => ("FormulaCodeModel", "sheet", "[I", true)
  | 27 => ("FormulaCodeModel", "form", "[I", true)
  | 28 => ("FormulaCodeModel", "rows", "[I", true)
  | 29 => ("FormulaCodeModel", "columns", "[I", true)
  | 30 => ("FormulaCodeModel", "rowFixed", "[I", true)
  | 31 => ("FormulaCodeModel", "columnFixed", "[I", true)
  | 32 => ("FormulaCodeModel", "stop", "I", false)
  | 33 => ("FormulaCodeModel", "value", "I", false)
  | 34 => ("FormulaCodeModel", "fixed", "I", false)
  | 35 => ("FormulaCodeModel", "open", "I", false)
  | 36 => ("FormulaCodeModel", "opened", "[I", true)
  | 37 => ("FormulaCodeModel", "count", "[I", true)
  | 38 => ("FormulaCodeModel", "all", "[I", true)
  | 39 => ("FormulaCodeModel", "wide", "[I", true)
  | 40 => ("FormulaCodeModel", "high", "[I", true)
  | 41 => ("FormulaCodeModel", "tasks", "I", false)
  | 42 => ("FormulaCodeModel", "task", "[I", true)
  | 43 => ("FormulaCodeModel", "from", "[I", true)
  | 44 => ("FormulaCodeModel", "to", "[I", true)
  | 45 => ("FormulaCodeModel", "made", "I", false)
  | 46 => ("FormulaCodeModel", "making", "[I", true)
  | 47 => ("FormulaCodeModel", "length", "I", false)
  | 48 => ("FormulaCodeModel", "codes", "[I", true)
  | 49 => ("FormulaCodeModel", "isCode", "Z", false)
  | 50 => ("FormulaCodeModel", "items", "I", false)
  | 51 => ("FormulaCodeModel", "item", "[I", true)
  | 52 => ("FormulaCodeModel", "begin", "[I", true)
  | 53 => ("FormulaCodeModel", "written", "I", false)
  | 54 => ("FormulaCodeModel", "output", "[C", true)
  | _ => ("FormulaCodeModel", "wants", "Z", false)
def tyX8 : Nat → FieldType := fun k => match k with
  | 0 => .int
  | 1 => .array .int
  | 2 => .int
  | 3 => .array .int
  | 4 => .int
  | 5 => .int
  | 6 => .int
  | 7 => .array .int
  | 8 => .array .int
  | 9 => .int
  | 10 => .array .int
  | 11 => .array .int
  | 12 => .array .long
  | 13 => .array .long
  | 14 => .array .int
  | 15 => .array .int
  | 16 => .int
  | 17 => .array .int
  | 18 => .array .int
  | 19 => .array .int
  | 20 => .array .int
  | 21 => .array .boolean
  | 22 => .array .int
  | 23 => .array .long
  | 24 => .array .int
  | 25 => .array .int
  | 26 => .array .int
  | 27 => .array .int
  | 28 => .array .int
  | 29 => .array .int
  | 30 => .array .int
  | 31 => .array .int
  | 32 => .int
  | 33 => .int
  | 34 => .int
  | 35 => .int
  | 36 => .array .int
  | 37 => .array .int
  | 38 => .array .int
  | 39 => .array .int
  | 40 => .array .int
  | 41 => .int
  | 42 => .array .int
  | 43 => .array .int
  | 44 => .array .int
  | 45 => .int
  | 46 => .array .int
  | 47 => .int
  | 48 => .array .int
  | 49 => .boolean
  | 50 => .int
  | 51 => .array .int
  | 52 => .array .int
  | 53 => .int
  | 54 => .array .char
  | _ => .boolean
abbrev wsX80 : List Cond := u_ws RX8 TX8 56
theorem nmX8 : ∀ a, a < 56 → ∀ b, b < 56 → a ≠ b → (TX8 a).2.1 ≠ (TX8 b).2.1 := by decide +kernel
theorem tyX8_ok : ∀ k, k < 56 → parseFieldDescriptor (TX8 k).2.2.1 = some (tyX8 k) := by decide +kernel
abbrev cX8_init : ByteArray := prog_10_method_1_code
def yX8_init : MethodName := ⟨RX8, "<init>", "()V"⟩
abbrev cX8_thrown : ByteArray := prog_10_method_2_code
def yX8_thrown : MethodName := ⟨RX8, "thrown", "()I"⟩
abbrev cX8_row : ByteArray := prog_10_method_3_code
def yX8_row : MethodName := ⟨RX8, "row", "(IJJII)V"⟩
abbrev cX8_fill : ByteArray := prog_10_method_4_code
def yX8_fill : MethodName := ⟨RX8, "fill", "()V"⟩
abbrev cX8_put : ByteArray := prog_10_method_5_code
def yX8_put : MethodName := ⟨RX8, "put", "(I)V"⟩
abbrev cX8_feed : ByteArray := prog_10_method_6_code
def yX8_feed : MethodName := ⟨RX8, "feed", "(IIIII)Z"⟩
abbrev cX8_end : ByteArray := prog_10_method_7_code
def yX8_end : MethodName := ⟨RX8, "end", "(I)Z"⟩
abbrev cX8_look : ByteArray := prog_10_method_8_code
def yX8_look : MethodName := ⟨RX8, "look", "(I)I"⟩
abbrev cX8_great : ByteArray := prog_10_method_9_code
def yX8_great : MethodName := ⟨RX8, "great", "(I)I"⟩
abbrev cX8_isLetter : ByteArray := prog_10_method_10_code
def yX8_isLetter : MethodName := ⟨RX8, "isLetter", "(I)Z"⟩
abbrev cX8_isDigit : ByteArray := prog_10_method_11_code
def yX8_isDigit : MethodName := ⟨RX8, "isDigit", "(I)Z"⟩
abbrev cX8_isWordPart : ByteArray := prog_10_method_12_code
def yX8_isWordPart : MethodName := ⟨RX8, "isWordPart", "(I)Z"⟩
abbrev cX8_wordEnd : ByteArray := prog_10_method_13_code
def yX8_wordEnd : MethodName := ⟨RX8, "wordEnd", "(I)I"⟩
abbrev cX8_isSheet : ByteArray := prog_10_method_14_code
def yX8_isSheet : MethodName := ⟨RX8, "isSheet", "(III)Z"⟩
abbrev cX8_findSheet : ByteArray := prog_10_method_15_code
def yX8_findSheet : MethodName := ⟨RX8, "findSheet", "(I)I"⟩
abbrev cX8_sheet : ByteArray := prog_10_method_16_code
def yX8_sheet : MethodName := ⟨RX8, "sheet", "()I"⟩
abbrev cX8_isAlone : ByteArray := prog_10_method_17_code
def yX8_isAlone : MethodName := ⟨RX8, "isAlone", "(I)Z"⟩
abbrev cX8_column : ByteArray := prog_10_method_18_code
def yX8_column : MethodName := ⟨RX8, "column", "(I)Z"⟩
abbrev cX8_line : ByteArray := prog_10_method_19_code
def yX8_line : MethodName := ⟨RX8, "line", "(I)Z"⟩
abbrev cX8_place : ByteArray := prog_10_method_20_code
def yX8_place : MethodName := ⟨RX8, "place", "(II)Z"⟩
abbrev cX8_twoColumns : ByteArray := prog_10_method_21_code
def yX8_twoColumns : MethodName := ⟨RX8, "twoColumns", "(II)Z"⟩
abbrev cX8_twoLines : ByteArray := prog_10_method_22_code
def yX8_twoLines : MethodName := ⟨RX8, "twoLines", "(II)Z"⟩
abbrev cX8_refers : ByteArray := prog_10_method_23_code
def yX8_refers : MethodName := ⟨RX8, "refers", "(II)Z"⟩
abbrev cX8_set : ByteArray := prog_10_method_24_code
def yX8_set : MethodName := ⟨RX8, "set", "(IIII)V"⟩
abbrev cX8_withSheet : ByteArray := prog_10_method_25_code
def yX8_withSheet : MethodName := ⟨RX8, "withSheet", "(IIII)V"⟩
abbrev cX8_quotedSheet : ByteArray := prog_10_method_26_code
def yX8_quotedSheet : MethodName := ⟨RX8, "quotedSheet", "(II)V"⟩
abbrev cX8_string : ByteArray := prog_10_method_27_code
def yX8_string : MethodName := ⟨RX8, "string", "(II)V"⟩
abbrev cX8_number : ByteArray := prog_10_method_28_code
def yX8_number : MethodName := ⟨RX8, "number", "(II)V"⟩
abbrev cX8_exponent : ByteArray := prog_10_method_29_code
def yX8_exponent : MethodName := ⟨RX8, "exponent", "(II)V"⟩
abbrev cX8_errorWord : ByteArray := prog_10_method_30_code
def yX8_errorWord : MethodName := ⟨RX8, "errorWord", "(I)J"⟩
abbrev cX8_error : ByteArray := prog_10_method_31_code
def yX8_error : MethodName := ⟨RX8, "error", "(II)V"⟩
abbrev cX8_sign : ByteArray := prog_10_method_32_code
def yX8_sign : MethodName := ⟨RX8, "sign", "(IIII)V"⟩
abbrev cX8_mark : ByteArray := prog_10_method_33_code
def yX8_mark : MethodName := ⟨RX8, "mark", "(II)V"⟩
abbrev cX8_token : ByteArray := prog_10_method_34_code
def yX8_token : MethodName := ⟨RX8, "token", "(II)V"⟩
abbrev cX8_read : ByteArray := prog_10_method_35_code
def yX8_read : MethodName := ⟨RX8, "read", "()V"⟩
abbrev cX8_push : ByteArray := prog_10_method_36_code
def yX8_push : MethodName := ⟨RX8, "push", "(I)Z"⟩
abbrev cX8_isIn : ByteArray := prog_10_method_37_code
def yX8_isIn : MethodName := ⟨RX8, "isIn", "(I)Z"⟩
abbrev cX8_packed : ByteArray := prog_10_method_38_code
def yX8_packed : MethodName := ⟨RX8, "packed", "(II)J"⟩
abbrev cX8_function : ByteArray := prog_10_method_39_code
def yX8_function : MethodName := ⟨RX8, "function", "(I)I"⟩
abbrev cX8_isTrue : ByteArray := prog_10_method_40_code
def yX8_isTrue : MethodName := ⟨RX8, "isTrue", "(I)Z"⟩
abbrev cX8_isTruth : ByteArray := prog_10_method_41_code
def yX8_isTruth : MethodName := ⟨RX8, "isTruth", "(I)Z"⟩
abbrev cX8_close : ByteArray := prog_10_method_42_code
def yX8_close : MethodName := ⟨RX8, "close", "(I)Z"⟩
abbrev cX8_comma : ByteArray := prog_10_method_43_code
def yX8_comma : MethodName := ⟨RX8, "comma", "()Z"⟩
abbrev cX8_operand : ByteArray := prog_10_method_44_code
def yX8_operand : MethodName := ⟨RX8, "operand", "(I)Z"⟩
abbrev cX8_behind : ByteArray := prog_10_method_45_code
def yX8_behind : MethodName := ⟨RX8, "behind", "(I)Z"⟩
abbrev cX8_element : ByteArray := prog_10_method_46_code
def yX8_element : MethodName := ⟨RX8, "element", "(I)Z"⟩
abbrev cX8_behindElement : ByteArray := prog_10_method_47_code
def yX8_behindElement : MethodName := ⟨RX8, "behindElement", "(I)Z"⟩
abbrev cX8_check : ByteArray := prog_10_method_48_code
def yX8_check : MethodName := ⟨RX8, "check", "()I"⟩
abbrev cX8_isName : ByteArray := prog_10_method_49_code
def yX8_isName : MethodName := ⟨RX8, "isName", "(II)Z"⟩
abbrev cX8_nameOf : ByteArray := prog_10_method_50_code
def yX8_nameOf : MethodName := ⟨RX8, "nameOf", "(I)I"⟩
abbrev cX8_giveNames : ByteArray := prog_10_method_51_code
def yX8_giveNames : MethodName := ⟨RX8, "giveNames", "()Z"⟩
abbrev cX8_emit : ByteArray := prog_10_method_52_code
def yX8_emit : MethodName := ⟨RX8, "emit", "(I)V"⟩
abbrev cX8_later : ByteArray := prog_10_method_53_code
def yX8_later : MethodName := ⟨RX8, "later", "(III)V"⟩
abbrev cX8_rank : ByteArray := prog_10_method_54_code
def yX8_rank : MethodName := ⟨RX8, "rank", "(I)I"⟩
abbrev cX8_next : ByteArray := prog_10_method_55_code
def yX8_next : MethodName := ⟨RX8, "next", "(I)I"⟩
abbrev cX8_split : ByteArray := prog_10_method_56_code
def yX8_split : MethodName := ⟨RX8, "split", "(II)I"⟩
abbrev cX8_emitNumber : ByteArray := prog_10_method_57_code
def yX8_emitNumber : MethodName := ⟨RX8, "emitNumber", "(IZ)V"⟩
abbrev cX8_emitString : ByteArray := prog_10_method_58_code
def yX8_emitString : MethodName := ⟨RX8, "emitString", "(I)V"⟩
abbrev cX8_emitReference : ByteArray := prog_10_method_59_code
def yX8_emitReference : MethodName := ⟨RX8, "emitReference", "(I)V"⟩
abbrev cX8_emitToken : ByteArray := prog_10_method_60_code
def yX8_emitToken : MethodName := ⟨RX8, "emitToken", "(IZ)V"⟩
abbrev cX8_emitArray : ByteArray := prog_10_method_61_code
def yX8_emitArray : MethodName := ⟨RX8, "emitArray", "(I)V"⟩
abbrev cX8_call : ByteArray := prog_10_method_62_code
def yX8_call : MethodName := ⟨RX8, "call", "(I)V"⟩
abbrev cX8_exchange : ByteArray := prog_10_method_63_code
def yX8_exchange : MethodName := ⟨RX8, "exchange", "(II)V"⟩
abbrev cX8_expression : ByteArray := prog_10_method_64_code
def yX8_expression : MethodName := ⟨RX8, "expression", "(II)V"⟩
abbrev cX8_emitCall : ByteArray := prog_10_method_65_code
def yX8_emitCall : MethodName := ⟨RX8, "emitCall", "(II)V"⟩
abbrev cX8_makeCode : ByteArray := prog_10_method_66_code
def yX8_makeCode : MethodName := ⟨RX8, "makeCode", "()V"⟩
abbrev cX8_compile : ByteArray := prog_10_method_67_code
def yX8_compile : MethodName := ⟨RX8, "compile", "()I"⟩
abbrev cX8_sizeOf : ByteArray := prog_10_method_68_code
def yX8_sizeOf : MethodName := ⟨RX8, "sizeOf", "(I)I"⟩
abbrev cX8_operands : ByteArray := prog_10_method_69_code
def yX8_operands : MethodName := ⟨RX8, "operands", "(I)I"⟩
abbrev cX8_findItems : ByteArray := prog_10_method_70_code
def yX8_findItems : MethodName := ⟨RX8, "findItems", "()V"⟩
abbrev cX8_reference : ByteArray := prog_10_method_71_code
def yX8_reference : MethodName := ⟨RX8, "reference", "(II)I"⟩
abbrev cX8_out : ByteArray := prog_10_method_72_code
def yX8_out : MethodName := ⟨RX8, "out", "(I)V"⟩
abbrev cX8_outNumber : ByteArray := prog_10_method_73_code
def yX8_outNumber : MethodName := ⟨RX8, "outNumber", "(J)V"⟩
abbrev cX8_outPacked : ByteArray := prog_10_method_74_code
def yX8_outPacked : MethodName := ⟨RX8, "outPacked", "(J)V"⟩
abbrev cX8_outColumn : ByteArray := prog_10_method_75_code
def yX8_outColumn : MethodName := ⟨RX8, "outColumn", "(I)V"⟩
abbrev cX8_outDecimal : ByteArray := prog_10_method_76_code
def yX8_outDecimal : MethodName := ⟨RX8, "outDecimal", "(I)V"⟩
abbrev cX8_digitAt : ByteArray := prog_10_method_77_code
def yX8_digitAt : MethodName := ⟨RX8, "digitAt", "(JI)I"⟩
abbrev cX8_outString : ByteArray := prog_10_method_78_code
def yX8_outString : MethodName := ⟨RX8, "outString", "(I)V"⟩
abbrev cX8_isPlain : ByteArray := prog_10_method_79_code
def yX8_isPlain : MethodName := ⟨RX8, "isPlain", "(I)Z"⟩
abbrev cX8_outSheet : ByteArray := prog_10_method_80_code
def yX8_outSheet : MethodName := ⟨RX8, "outSheet", "(I)V"⟩
abbrev cX8_outPlace : ByteArray := prog_10_method_81_code
def yX8_outPlace : MethodName := ⟨RX8, "outPlace", "(IZIZ)V"⟩
abbrev cX8_outReference : ByteArray := prog_10_method_82_code
def yX8_outReference : MethodName := ⟨RX8, "outReference", "(I)V"⟩
abbrev cX8_outName : ByteArray := prog_10_method_83_code
def yX8_outName : MethodName := ⟨RX8, "outName", "(I)V"⟩
abbrev cX8_outOperation : ByteArray := prog_10_method_84_code
def yX8_outOperation : MethodName := ⟨RX8, "outOperation", "(I)V"⟩
abbrev cX8_outPlain : ByteArray := prog_10_method_85_code
def yX8_outPlain : MethodName := ⟨RX8, "outPlain", "(I)V"⟩
abbrev cX8_outArray : ByteArray := prog_10_method_86_code
def yX8_outArray : MethodName := ⟨RX8, "outArray", "(I)V"⟩
abbrev cX8_outWord : ByteArray := prog_10_method_87_code
def yX8_outWord : MethodName := ⟨RX8, "outWord", "(I)V"⟩
abbrev cX8_outItem : ByteArray := prog_10_method_88_code
def yX8_outItem : MethodName := ⟨RX8, "outItem", "(I)V"⟩
abbrev cX8_print : ByteArray := prog_10_method_89_code
def yX8_print : MethodName := ⟨RX8, "print", "()I"⟩
abbrev cX8_illAt : ByteArray := prog_10_method_90_code
def yX8_illAt : MethodName := ⟨RX8, "illAt", "()I"⟩
abbrev cX8_word : ByteArray := prog_10_method_91_code
def yX8_word : MethodName := ⟨RX8, "word", "(I)I"⟩
abbrev cX8_names : ByteArray := prog_10_method_92_code
def yX8_names : MethodName := ⟨RX8, "names", "()I"⟩
abbrev cX8_name : ByteArray := prog_10_method_93_code
def yX8_name : MethodName := ⟨RX8, "name", "(II)I"⟩
abbrev cX8_output : ByteArray := prog_10_method_94_code
def yX8_output : MethodName := ⟨RX8, "output", "(I)I"⟩
abbrev cX8_again : ByteArray := prog_10_method_95_code
def yX8_again : MethodName := ⟨RX8, "again", "()V"⟩
def RL : String := "FormulaCodeLaw"
abbrev cL_sheet : ByteArray := method_3_code
def yL_sheet : MethodName := ⟨RL, "sheet", "(LFormulaCode;[J)I"⟩
abbrev cL_compile : ByteArray := method_4_code
def yL_compile : MethodName := ⟨RL, "compile", "(LFormulaCode;[J)I"⟩
abbrev cL_law : ByteArray := code
def yL_law : MethodName := ⟨RL, "law", "([I)Z"⟩
abbrev vwCl : List vw_C := [(RX1, TX1, 11), (RX2, TX2, 15), (RX3, TX3, 2), (RX4, TX4, 8), (RX5, TX5, 5), (RX6, TX6, 5), (RX7, TX7, 11), (RX8, TX8, 56)]
end
section
/-! constants that are there from the start: the texts of the class, its list of functions -/
def enLo : List Int := [1, 1, 1, 1, 1, 1, 1, 1, 1, 1, 1, 1, 1, 2, 2, 2, 3, 2, 1, 1, 2, 2, 2, 1, 1, 1, 1, 2, 2, 1, 1, 1, 2, 2, 2, 2, 2, 2, 1, 1,
  1, 2, 2, 2, 1, 2, 2, 1, 1, 2, 1, 1, 1, 1, 2, 2, 2, 3, 3, 3, 2, 3, 4, 4, 1, 1, 1, 1, 1, 3, 2, 2, 4, 3, 2, 1, 1, 1, 1, 1,
  3, 2, 1, 1, 1, 2, 1, 1, 2, 2, 3, 3, 2, 2, 2, 0, 0, 1, 1, 2, 1, 3, 3, 1, 1, 1, 1, 1, 1, 1, 1, 2, 2, 2, 3, 2, 2, 1, 1, 1,
  1, 1, 1, 1, 1, 1, 1, 1, 1, 0, 1, 1, 0]
def enHi : List Int := [30, 30, 30, 30, 1, 30, 30, 30, 30, 30, 30, 30, 30, 3, 2, 3, 29, 30, 30, 30, 2, 2, 3, 30, 30, 30, 30, 2, 2, 1, 1, 2, 2, 2, 2, 2, 2, 2, 1, 1,
  1, 2, 2, 2, 1, 2, 2, 30, 30, 3, 30, 30, 30, 1, 2, 2, 30, 5, 5, 5, 30, 3, 4, 5, 1, 1, 1, 2, 2, 3, 3, 3, 4, 4, 2, 1, 1, 1, 1, 30,
  30, 2, 1, 1, 1, 2, 3, 1, 3, 2, 4, 4, 3, 3, 3, 1, 1, 1, 1, 5, 1, 3, 3, 1, 1, 1, 1, 1, 1, 2, 2, 2, 2, 2, 3, 3, 3, 1, 1, 1,
  1, 1, 1, 1, 1, 1, 1, 1, 1, 0, 1, 1, 0]
def enSt : List Nat := [42, 43, 44, 45, 46, 47, 48, 49, 50, 51, 52, 53, 54, 55, 56, 57, 58, 59, 60, 61, 62, 63, 64, 65, 66, 67, 68, 69, 70, 71, 72, 73, 74, 75, 76, 77, 78, 79, 80, 81,
  82, 83, 84, 85, 86, 87, 88, 89, 90, 91, 92, 93, 94, 95, 96, 97, 98, 99, 100, 101, 102, 103, 104, 105, 106, 107, 108, 109, 110, 111, 112, 113, 114, 115, 116, 117, 118, 119, 120, 121,
  122, 123, 124, 125, 126, 127, 128, 129, 130, 131, 132, 133, 134, 135, 136, 137, 138, 139, 140, 141, 142, 143, 144, 145, 146, 147, 148, 149, 150, 151, 152, 153, 154, 155, 156, 157, 158, 159, 160, 161,
  162, 163, 164, 165, 166, 167, 168, 169, 170, 171, 172, 173, 174]
def efI (y f : Nat) : Int := match y with
  | 0 => enLo.getD f 0
  | _ => enHi.getD f 0
def efS (f : Nat) : Nat := enSt.getD f 0
/-- class, pool entry, text -/
def strs : List (String × Nat × String) := [("FormulaCode$Printer", 105, ")"), ("FormulaCode$Printer", 107, "%"), ("FormulaCode$Printer", 109, ""), ("FormulaCode$Printer", 184, "-"),
  ("FormulaCode$Printer", 199, "E-"), ("FormulaCode$Printer", 201, "E+"), ("FormulaCode$Printer", 203, "0"), ("FormulaCode$Printer", 189, "0."),
  ("FormulaCode$Printer", 125, "TRUE"), ("FormulaCode$Printer", 127, "FALSE"), ("FormulaCode", 199, "#NULL\x21"), ("FormulaCode", 201, "#DIV/0\x21"),
  ("FormulaCode", 203, "#VALUE\x21"), ("FormulaCode", 205, "#REF\x21"), ("FormulaCode", 207, "#NAME?"), ("FormulaCode", 209, "#NUM\x21"),
  ("FormulaCode", 211, "#N/A"), ("FormulaCode", 213, ""), ("FormulaCode$Printer", 169, "'"), ("FormulaCode$Printer", 171, "'\x21"),
  ("FormulaCode$Printer", 173, "\x21"), ("FormulaCode$Printer", 175, "$"), ("FormulaCode", 215, "="), ("FormulaCode", 217, "<>"),
  ("FormulaCode", 219, "<"), ("FormulaCode", 221, "<="), ("FormulaCode", 223, ">"), ("FormulaCode", 225, ">="),
  ("FormulaCode", 227, "&"), ("FormulaCode", 229, "+"), ("FormulaCode", 231, "-"), ("FormulaCode", 233, "*"),
  ("FormulaCode", 235, "/"), ("FormulaCode", 237, "^"), ("FormulaCode", 239, "%"), ("FormulaCode", 241, "("),
  ("FormulaCode", 99, "a sheet's name has 1 to 31 characters 32 to 126"), ("FormulaCode", 113, "eight sheets are there, or one has this name"), ("FormulaCode$Scanner", 55, "TRUE"), ("FormulaCode$Scanner", 61, "FALSE"),
  ("FormulaCode", 131, "the text is ill"), ("FormulaCode", 136, "there would be more than 200 names"), ("FormulaCode$Function", 433, "SUM"), ("FormulaCode$Function", 437, "PRODUCT"),
  ("FormulaCode$Function", 438, "COUNT"), ("FormulaCode$Function", 439, "COUNTA"), ("FormulaCode$Function", 440, "COUNTBLANK"), ("FormulaCode$Function", 441, "AVERAGE"),
  ("FormulaCode$Function", 442, "AVERAGEA"), ("FormulaCode$Function", 443, "MIN"), ("FormulaCode$Function", 444, "MAX"), ("FormulaCode$Function", 445, "MINA"),
  ("FormulaCode$Function", 446, "MAXA"), ("FormulaCode$Function", 447, "SUMSQ"), ("FormulaCode$Function", 448, "SUMPRODUCT"), ("FormulaCode$Function", 449, "SUMIF"),
  ("FormulaCode$Function", 450, "COUNTIF"), ("FormulaCode$Function", 451, "AVERAGEIF"), ("FormulaCode$Function", 452, "SUMIFS"), ("FormulaCode$Function", 453, "COUNTIFS"),
  ("FormulaCode$Function", 454, "MEDIAN"), ("FormulaCode$Function", 455, "MODE"), ("FormulaCode$Function", 456, "LARGE"), ("FormulaCode$Function", 457, "SMALL"),
  ("FormulaCode$Function", 458, "RANK"), ("FormulaCode$Function", 459, "VAR"), ("FormulaCode$Function", 460, "VARP"), ("FormulaCode$Function", 461, "AVEDEV"),
  ("FormulaCode$Function", 462, "DEVSQ"), ("FormulaCode$Function", 463, "PERCENTILE"), ("FormulaCode$Function", 464, "QUARTILE"), ("FormulaCode$Function", 465, "ABS"),
  ("FormulaCode$Function", 466, "INT"), ("FormulaCode$Function", 467, "TRUNC"), ("FormulaCode$Function", 468, "ROUND"), ("FormulaCode$Function", 469, "ROUNDUP"),
  ("FormulaCode$Function", 470, "ROUNDDOWN"), ("FormulaCode$Function", 471, "MROUND"), ("FormulaCode$Function", 472, "CEILING"), ("FormulaCode$Function", 473, "FLOOR"),
  ("FormulaCode$Function", 474, "EVEN"), ("FormulaCode$Function", 475, "ODD"), ("FormulaCode$Function", 476, "SIGN"), ("FormulaCode$Function", 477, "MOD"),
  ("FormulaCode$Function", 478, "QUOTIENT"), ("FormulaCode$Function", 479, "POWER"), ("FormulaCode$Function", 480, "FACT"), ("FormulaCode$Function", 481, "COMBIN"),
  ("FormulaCode$Function", 482, "PERMUT"), ("FormulaCode$Function", 483, "GCD"), ("FormulaCode$Function", 484, "LCM"), ("FormulaCode$Function", 485, "IF"),
  ("FormulaCode$Function", 486, "AND"), ("FormulaCode$Function", 487, "OR"), ("FormulaCode$Function", 488, "XOR"), ("FormulaCode$Function", 489, "NOT"),
  ("FormulaCode$Function", 490, "IFERROR"), ("FormulaCode$Function", 491, "IFNA"), ("FormulaCode$Function", 492, "CHOOSE"), ("FormulaCode$Function", 493, "PMT"),
  ("FormulaCode$Function", 494, "FV"), ("FormulaCode$Function", 495, "PV"), ("FormulaCode$Function", 496, "NPV"), ("FormulaCode$Function", 497, "SLN"),
  ("FormulaCode$Function", 498, "SYD"), ("FormulaCode$Function", 499, "DDB"), ("FormulaCode$Function", 500, "N"), ("FormulaCode$Function", 501, "T"),
  ("FormulaCode$Function", 502, "LEN"), ("FormulaCode$Function", 503, "LEFT"), ("FormulaCode$Function", 504, "RIGHT"), ("FormulaCode$Function", 505, "MID"),
  ("FormulaCode$Function", 506, "FIND"), ("FormulaCode$Function", 507, "SEARCH"), ("FormulaCode$Function", 508, "REPLACE"), ("FormulaCode$Function", 509, "SUBSTITUTE"),
  ("FormulaCode$Function", 510, "REPT"), ("FormulaCode$Function", 511, "UPPER"), ("FormulaCode$Function", 512, "LOWER"), ("FormulaCode$Function", 513, "PROPER"),
  ("FormulaCode$Function", 514, "TRIM"), ("FormulaCode$Function", 515, "CONCATENATE"), ("FormulaCode$Function", 516, "TEXTJOIN"), ("FormulaCode$Function", 517, "EXACT"),
  ("FormulaCode$Function", 518, "CHAR"), ("FormulaCode$Function", 519, "CODE"), ("FormulaCode$Function", 520, "VALUE"), ("FormulaCode$Function", 521, "TEXT"),
  ("FormulaCode$Function", 522, "FIXED"), ("FormulaCode$Function", 523, "ROMAN"), ("FormulaCode$Function", 524, "BASE"), ("FormulaCode$Function", 525, "DECIMAL"),
  ("FormulaCode$Function", 526, "VLOOKUP"), ("FormulaCode$Function", 527, "HLOOKUP"), ("FormulaCode$Function", 528, "LOOKUP"), ("FormulaCode$Function", 529, "MATCH"),
  ("FormulaCode$Function", 530, "INDEX"), ("FormulaCode$Function", 531, "ROW"), ("FormulaCode$Function", 532, "COLUMN"), ("FormulaCode$Function", 533, "ROWS"),
  ("FormulaCode$Function", 534, "COLUMNS"), ("FormulaCode$Function", 535, "ADDRESS"), ("FormulaCode$Function", 536, "TRANSPOSE"), ("FormulaCode$Function", 537, "DATE"),
  ("FormulaCode$Function", 538, "TIME"), ("FormulaCode$Function", 539, "YEAR"), ("FormulaCode$Function", 540, "MONTH"), ("FormulaCode$Function", 541, "DAY"),
  ("FormulaCode$Function", 542, "HOUR"), ("FormulaCode$Function", 543, "MINUTE"), ("FormulaCode$Function", 544, "SECOND"), ("FormulaCode$Function", 545, "WEEKDAY"),
  ("FormulaCode$Function", 546, "WEEKNUM"), ("FormulaCode$Function", 547, "EDATE"), ("FormulaCode$Function", 548, "EOMONTH"), ("FormulaCode$Function", 549, "DAYS"),
  ("FormulaCode$Function", 550, "DATEDIF"), ("FormulaCode$Function", 551, "NETWORKDAYS"), ("FormulaCode$Function", 552, "WORKDAY"), ("FormulaCode$Function", 553, "DATEVALUE"),
  ("FormulaCode$Function", 554, "TIMEVALUE"), ("FormulaCode$Function", 555, "ISBLANK"), ("FormulaCode$Function", 556, "ISNUMBER"), ("FormulaCode$Function", 557, "ISTEXT"),
  ("FormulaCode$Function", 558, "ISNONTEXT"), ("FormulaCode$Function", 559, "ISLOGICAL"), ("FormulaCode$Function", 560, "ISERROR"), ("FormulaCode$Function", 561, "ISERR"),
  ("FormulaCode$Function", 562, "ISNA"), ("FormulaCode$Function", 563, "ISEVEN"), ("FormulaCode$Function", 564, "ISODD"), ("FormulaCode$Function", 565, "NA"),
  ("FormulaCode$Function", 566, "TYPE"), ("FormulaCode$Function", 568, "ERROR.TYPE"), ("FormulaCode$Function", 570, "PI")]
def strC : List (List Int) := [[41], [37], [], [45], [69, 45], [69, 43],
  [48], [48, 46], [84, 82, 85, 69], [70, 65, 76, 83, 69], [35, 78, 85, 76, 76, 33], [35, 68, 73, 86, 47, 48, 33],
  [35, 86, 65, 76, 85, 69, 33], [35, 82, 69, 70, 33], [35, 78, 65, 77, 69, 63], [35, 78, 85, 77, 33], [35, 78, 47, 65], [],
  [39], [39, 33], [33], [36], [61], [60, 62],
  [60], [60, 61], [62], [62, 61], [38], [43],
  [45], [42], [47], [94], [37], [40],
  [97, 32, 115, 104, 101, 101, 116, 39, 115, 32, 110, 97, 109, 101, 32, 104, 97, 115, 32, 49, 32, 116, 111, 32, 51, 49, 32, 99, 104, 97, 114, 97, 99, 116, 101, 114, 115, 32, 51, 50, 32, 116, 111, 32, 49, 50, 54], [101, 105, 103, 104, 116, 32, 115, 104, 101, 101, 116, 115, 32, 97, 114, 101, 32, 116, 104, 101, 114, 101, 44, 32, 111, 114, 32, 111, 110, 101, 32, 104, 97, 115, 32, 116, 104, 105, 115, 32, 110, 97, 109, 101], [84, 82, 85, 69], [70, 65, 76, 83, 69], [116, 104, 101, 32, 116, 101, 120, 116, 32, 105, 115, 32, 105, 108, 108], [116, 104, 101, 114, 101, 32, 119, 111, 117, 108, 100, 32, 98, 101, 32, 109, 111, 114, 101, 32, 116, 104, 97, 110, 32, 50, 48, 48, 32, 110, 97, 109, 101, 115],
  [83, 85, 77], [80, 82, 79, 68, 85, 67, 84], [67, 79, 85, 78, 84], [67, 79, 85, 78, 84, 65], [67, 79, 85, 78, 84, 66, 76, 65, 78, 75], [65, 86, 69, 82, 65, 71, 69],
  [65, 86, 69, 82, 65, 71, 69, 65], [77, 73, 78], [77, 65, 88], [77, 73, 78, 65], [77, 65, 88, 65], [83, 85, 77, 83, 81],
  [83, 85, 77, 80, 82, 79, 68, 85, 67, 84], [83, 85, 77, 73, 70], [67, 79, 85, 78, 84, 73, 70], [65, 86, 69, 82, 65, 71, 69, 73, 70], [83, 85, 77, 73, 70, 83], [67, 79, 85, 78, 84, 73, 70, 83],
  [77, 69, 68, 73, 65, 78], [77, 79, 68, 69], [76, 65, 82, 71, 69], [83, 77, 65, 76, 76], [82, 65, 78, 75], [86, 65, 82],
  [86, 65, 82, 80], [65, 86, 69, 68, 69, 86], [68, 69, 86, 83, 81], [80, 69, 82, 67, 69, 78, 84, 73, 76, 69], [81, 85, 65, 82, 84, 73, 76, 69], [65, 66, 83],
  [73, 78, 84], [84, 82, 85, 78, 67], [82, 79, 85, 78, 68], [82, 79, 85, 78, 68, 85, 80], [82, 79, 85, 78, 68, 68, 79, 87, 78], [77, 82, 79, 85, 78, 68],
  [67, 69, 73, 76, 73, 78, 71], [70, 76, 79, 79, 82], [69, 86, 69, 78], [79, 68, 68], [83, 73, 71, 78], [77, 79, 68],
  [81, 85, 79, 84, 73, 69, 78, 84], [80, 79, 87, 69, 82], [70, 65, 67, 84], [67, 79, 77, 66, 73, 78], [80, 69, 82, 77, 85, 84], [71, 67, 68],
  [76, 67, 77], [73, 70], [65, 78, 68], [79, 82], [88, 79, 82], [78, 79, 84],
  [73, 70, 69, 82, 82, 79, 82], [73, 70, 78, 65], [67, 72, 79, 79, 83, 69], [80, 77, 84], [70, 86], [80, 86],
  [78, 80, 86], [83, 76, 78], [83, 89, 68], [68, 68, 66], [78], [84],
  [76, 69, 78], [76, 69, 70, 84], [82, 73, 71, 72, 84], [77, 73, 68], [70, 73, 78, 68], [83, 69, 65, 82, 67, 72],
  [82, 69, 80, 76, 65, 67, 69], [83, 85, 66, 83, 84, 73, 84, 85, 84, 69], [82, 69, 80, 84], [85, 80, 80, 69, 82], [76, 79, 87, 69, 82], [80, 82, 79, 80, 69, 82],
  [84, 82, 73, 77], [67, 79, 78, 67, 65, 84, 69, 78, 65, 84, 69], [84, 69, 88, 84, 74, 79, 73, 78], [69, 88, 65, 67, 84], [67, 72, 65, 82], [67, 79, 68, 69],
  [86, 65, 76, 85, 69], [84, 69, 88, 84], [70, 73, 88, 69, 68], [82, 79, 77, 65, 78], [66, 65, 83, 69], [68, 69, 67, 73, 77, 65, 76],
  [86, 76, 79, 79, 75, 85, 80], [72, 76, 79, 79, 75, 85, 80], [76, 79, 79, 75, 85, 80], [77, 65, 84, 67, 72], [73, 78, 68, 69, 88], [82, 79, 87],
  [67, 79, 76, 85, 77, 78], [82, 79, 87, 83], [67, 79, 76, 85, 77, 78, 83], [65, 68, 68, 82, 69, 83, 83], [84, 82, 65, 78, 83, 80, 79, 83, 69], [68, 65, 84, 69],
  [84, 73, 77, 69], [89, 69, 65, 82], [77, 79, 78, 84, 72], [68, 65, 89], [72, 79, 85, 82], [77, 73, 78, 85, 84, 69],
  [83, 69, 67, 79, 78, 68], [87, 69, 69, 75, 68, 65, 89], [87, 69, 69, 75, 78, 85, 77], [69, 68, 65, 84, 69], [69, 79, 77, 79, 78, 84, 72], [68, 65, 89, 83],
  [68, 65, 84, 69, 68, 73, 70], [78, 69, 84, 87, 79, 82, 75, 68, 65, 89, 83], [87, 79, 82, 75, 68, 65, 89], [68, 65, 84, 69, 86, 65, 76, 85, 69], [84, 73, 77, 69, 86, 65, 76, 85, 69], [73, 83, 66, 76, 65, 78, 75],
  [73, 83, 78, 85, 77, 66, 69, 82], [73, 83, 84, 69, 88, 84], [73, 83, 78, 79, 78, 84, 69, 88, 84], [73, 83, 76, 79, 71, 73, 67, 65, 76], [73, 83, 69, 82, 82, 79, 82], [73, 83, 69, 82, 82],
  [73, 83, 78, 65], [73, 83, 69, 86, 69, 78], [73, 83, 79, 68, 68], [78, 65], [84, 89, 80, 69], [69, 82, 82, 79, 82, 46, 84, 89, 80, 69],
  [80, 73]]
def enNm : List String := ["SUM", "PRODUCT", "COUNT", "COUNTA", "COUNTBLANK", "AVERAGE", "AVERAGEA", "MIN", "MAX", "MINA", "MAXA", "SUMSQ",
  "SUMPRODUCT", "SUMIF", "COUNTIF", "AVERAGEIF", "SUMIFS", "COUNTIFS", "MEDIAN", "MODE", "LARGE", "SMALL", "RANK", "VAR",
  "VARP", "AVEDEV", "DEVSQ", "PERCENTILE", "QUARTILE", "ABS", "INT", "TRUNC", "ROUND", "ROUNDUP", "ROUNDDOWN", "MROUND",
  "CEILING", "FLOOR", "EVEN", "ODD", "SIGN", "MOD", "QUOTIENT", "POWER", "FACT", "COMBIN", "PERMUT", "GCD",
  "LCM", "IF", "AND", "OR", "XOR", "NOT", "IFERROR", "IFNA", "CHOOSE", "PMT", "FV", "PV",
  "NPV", "SLN", "SYD", "DDB", "N", "T", "LEN", "LEFT", "RIGHT", "MID", "FIND", "SEARCH",
  "REPLACE", "SUBSTITUTE", "REPT", "UPPER", "LOWER", "PROPER", "TRIM", "CONCATENATE", "TEXTJOIN", "EXACT", "CHAR", "CODE",
  "VALUE", "TEXT", "FIXED", "ROMAN", "BASE", "DECIMAL", "VLOOKUP", "HLOOKUP", "LOOKUP", "MATCH", "INDEX", "ROW",
  "COLUMN", "ROWS", "COLUMNS", "ADDRESS", "TRANSPOSE", "DATE", "TIME", "YEAR", "MONTH", "DAY", "HOUR", "MINUTE",
  "SECOND", "WEEKDAY", "WEEKNUM", "EDATE", "EOMONTH", "DAYS", "DATEDIF", "NETWORKDAYS", "WORKDAY", "DATEVALUE", "TIMEVALUE", "ISBLANK",
  "ISNUMBER", "ISTEXT", "ISNONTEXT", "ISLOGICAL", "ISERROR", "ISERR", "ISNA", "ISEVEN", "ISODD", "NA", "TYPE", "ERROR_TYPE",
  "PI"]
end
section
/-! THE SMALL MACHINE: ints and longs as integers, cells by their numbers in a fixed layout; a method's text between two cut points is told as one proposition (wp), and wp is sound for the machine (part 04). -/
abbrev AV : Type := Int ⊕ Int ⊕ Nat
abbrev vI (z : Int) : AV := .inl z
abbrev vJ (z : Int) : AV := .inr (.inl z)
abbrev vR (k : Nat) : AV := .inr (.inr k)
/-- scalars (cell, slot); rows (cell, place) -/
abbrev AH : Type := (Nat → Nat → Int) × (Nat → Nat → Int)
abbrev AL : Type := List (Option AV)
abbrev inR (z : Int) : Prop := -2147483648 ≤ z ∧ z ≤ 2147483647
abbrev inJ (z : Int) : Prop := -9223372036854775808 ≤ z ∧ z ≤ 9223372036854775807
/-- a layout: how many cells; (0, class, 0) or (1, kind of element, length); which cell a reference field holds -/
abbrev WD : Type := Nat × (Nat → Nat × Nat × Nat) × (Nat → Nat → Nat)
def isO (w : WD) (k ci : Nat) : Prop := k < w.1 ∧ w.2.1 k = (0, ci, 0)
def isA (w : WD) (k ty : Nat) : Prop := k < w.1 ∧ (w.2.1 k).1 = 1 ∧ (w.2.1 k).2.1 = ty
abbrev alen (w : WD) (k : Nat) : Int := (((w.2.1 k).2.2 : Nat) : Int)
abbrev rfk (w : WD) (k j : Nat) : Nat := w.2.2 k j
def pS (h : AH) (k j : Nat) (z : Int) : AH := (fun k' j' => if j' = j ∧ k' = k then z else h.1 k' j', h.2)
def pA (h : AH) (k i : Nat) (z : Int) : AH := (h.1, fun k' i' => if k' = k ∧ i' = i then z else h.2 k' i')
abbrev gS (h : AH) (k j : Nat) : Int := h.1 k j
abbrev gA (h : AH) (k : Nat) (i : Int) : Int := h.2 k i.toNat
def lgt : AL → Nat → Option AV
  | [], _ => none
  | v :: _, 0 => v
  | _ :: L, n + 1 => lgt L n
def lst : AL → Nat → Option AV → AL
  | [], _, _ => []
  | _ :: L, 0, v => v :: L
  | u :: L, n + 1, v => u :: lst L n v
def is2 : Option AV → Bool
  | some (.inr (.inl _)) => true
  | _ => false
/-- what stands at k - 1 is forgotten if it was a long -/
def lcl (L : AL) : Nat → AL
  | 0 => L
  | k + 1 => bif is2 (lgt L k) then lst L k none else L
def lmk : AL → List Bool → AL
  | v :: L, b :: bs => (bif b then v else none) :: lmk L bs
  | _, _ => []
/-- the low 32 bits, as a signed number -/
def wrI (z : Int) : Int := (Int32.ofInt z).toInt
def wrJ (z : Int) : Int := (Int64.ofInt z).toInt
def andI (a b : Int) : Int := (Int32.ofInt a &&& Int32.ofInt b).toInt
def orI (a b : Int) : Int := (Int32.ofInt a ||| Int32.ofInt b).toInt
def shlI (a b : Int) : Int := (Int32.ofInt a <<< (Int32.ofInt b &&& 31)).toInt
def shrI (a b : Int) : Int := (Int32.ofInt a >>> (Int32.ofInt b &&& 31)).toInt
def andJ (a b : Int) : Int := (Int64.ofInt a &&& Int64.ofInt b).toInt
def orJ (a b : Int) : Int := (Int64.ofInt a ||| Int64.ofInt b).toInt
def shlJ (a b : Int) : Int := (Int64.ofInt a <<< ((Int32.ofInt b).toInt64 &&& 63)).toInt
def shrJ (a b : Int) : Int := (Int64.ofInt a >>> ((Int32.ofInt b).toInt64 &&& 63)).toInt
def p1 (st : List AV) (f : Int → List AV → Prop) : Prop := match st with
  | .inl a :: st' => f a st'
  | _ => False
def p2 (st : List AV) (f : Int → Int → List AV → Prop) : Prop := match st with
  | .inl b :: .inl a :: st' => f a b st'
  | _ => False
def j1 (st : List AV) (f : Int → List AV → Prop) : Prop := match st with
  | .inr (.inl a) :: st' => f a st'
  | _ => False
def j2 (st : List AV) (f : Int → Int → List AV → Prop) : Prop := match st with
  | .inr (.inl b) :: .inr (.inl a) :: st' => f a b st'
  | _ => False
def r1 (st : List AV) (f : Nat → List AV → Prop) : Prop := match st with
  | .inr (.inr k) :: st' => f k st'
  | _ => False
/-- int over reference (index over array) -/
def ir (st : List AV) (f : Int → Nat → List AV → Prop) : Prop := match st with
  | .inl i :: .inr (.inr k) :: st' => f i k st'
  | _ => False
/-- int, index, array -/
def iir (st : List AV) (f : Int → Int → Nat → List AV → Prop) : Prop := match st with
  | .inl x :: .inl i :: .inr (.inr k) :: st' => f x i k st'
  | _ => False
def jir (st : List AV) (f : Int → Int → Nat → List AV → Prop) : Prop := match st with
  | .inr (.inl x) :: .inl i :: .inr (.inr k) :: st' => f x i k st'
  | _ => False
def br (c A B : Prop) : Prop := (c → A) ∧ (¬ c → B)
def cmpI (c : ClassFile.Cond) (a b : Int) : Prop := match c with
  | .eq => a = b
  | .ne => a ≠ b
  | .lt => a < b
  | .ge => b ≤ a
  | .gt => b < a
  | .le => a ≤ b
/-- the places of a switch, from z = k on -/
def swT (pc : Nat) (z : Int) (jp : Nat → Prop) : Int → List Int → Prop
  | _, [] => True
  | k, o :: os => (z = k → jp ((pc : Int) + o).toNat) ∧ swT pc z jp (k + 1) os
def swL (pc : Nat) (z : Int) (jp : Nat → Prop) (d : Int) : List (Int × Int) → Prop
  | [] => jp ((pc : Int) + d).toNat
  | q :: qs => br (z = q.1) (jp ((pc : Int) + q.2).toNat) (swL pc z jp d qs)
def cmpJ (a b : Int) : Int := if a < b then -1 else if a = b then 0 else 1
/-- a check that is decided by the layout: gone where the cell is known -/
def ob (b : Bool) (P : Prop) : Prop := match b with
  | true => P
  | false => False
/-- 0 or 1: gone where the number is written out -/
def zok (z : Int) (P : Prop) : Prop := match z with
  | .ofNat 0 => P
  | .ofNat 1 => P
  | _ => False
def isOb (w : WD) (k ci : Nat) : Bool := Nat.blt k w.1 && ((w.2.1 k).1 == 0 && (w.2.1 k).2.1 == ci)
def isAb (w : WD) (k ty : Nat) : Bool := Nat.blt k w.1 && ((w.2.1 k).1 == 1 && (w.2.1 k).2.1 == ty)
def isAn (w : WD) (k : Nat) : Bool := Nat.blt k w.1 && ((w.2.1 k).1 == 1 && (Nat.blt (w.2.1 k).2.1 4 && Nat.ble (w.2.1 k).2.2 2147483647))
abbrev isStr (k : Nat) : Bool := Nat.ble 1000 k && Nat.blt k 1175
abbrev isEn (k : Nat) : Bool := Nat.ble 2000 k && Nat.blt k 2133
/-- an instruction: plain, or resolved: (kind, pool entry, x, y, place of its word, number) -/
abbrev AI : Type := Instr ⊕ (Nat × Nat × Nat × Nat × Nat × Int)
/-- what a method's end must meet -/
abbrev AR : Type := Option AV → AH → Prop
def rV (Q : AH → Prop) : AR := fun o h => match o with
  | none => Q h
  | _ => False
def rI (Q : Int → AH → Prop) : AR := fun o h => match o with
  | some (.inl z) => Q z h
  | _ => False
def rJ (Q : Int → AH → Prop) : AR := fun o h => match o with
  | some (.inr (.inl z)) => Q z h
  | _ => False
def rR (Q : Nat → AH → Prop) : AR := fun o h => match o with
  | some (.inr (.inr k)) => Q k h
  | _ => False
section WPI
variable (wd : WD) (call : Nat → List AV → AH → AR → Prop) (R : AR) (pc : Nat) (L : AL) (st : List AV) (h : AH) (nx : AL → List AV → AH → Prop) (jp : Nat → AL → List AV → AH → Prop)
def ldI (k : Nat) : Prop := match lgt L k with
  | some (.inl z) => nx L (.inl z :: st) h
  | _ => False
def ldJ (k : Nat) : Prop := match lgt L k with
  | some (.inr (.inl z)) => nx L (.inr (.inl z) :: st) h
  | _ => False
def ldR (k : Nat) : Prop := match lgt L k with
  | some (.inr (.inr z)) => nx L (.inr (.inr z) :: st) h
  | _ => False
def stI (k : Nat) : Prop := p1 st fun z st' => nx (lst (lcl L k) k (some (.inl z))) st' h
def stR (k : Nat) : Prop := r1 st fun z st' => nx (lst (lcl L k) k (some (.inr (.inr z)))) st' h
def stJ (k : Nat) : Prop := j1 st fun z st' => nx (lst (lst (lcl L k) k (some (.inr (.inl z)))) (k + 1) none) st' h
def bop (f : Int → Int → Int) : Prop := p2 st fun a b st' => inR (f a b) ∧ nx L (.inl (f a b) :: st') h
def bof (f : Int → Int → Int) : Prop := p2 st fun a b st' => nx L (.inl (f a b) :: st') h
def jop (f : Int → Int → Int) : Prop := j2 st fun a b st' => inJ (f a b) ∧ nx L (.inr (.inl (f a b)) :: st') h
def jof (f : Int → Int → Int) : Prop := j2 st fun a b st' => nx L (.inr (.inl (f a b)) :: st') h
/-- long under int (shifts) -/
def jsh (f : Int → Int → Int) : Prop := match st with
  | .inl b :: .inr (.inl a) :: st' => nx L (.inr (.inl (f a b)) :: st') h
  | _ => False
def arL (ty : Nat) : Prop := ir st fun i k st' => ob (isAb wd k ty) ((0 ≤ i ∧ i < alen wd k) ∧ nx L (.inl (gA h k i) :: st') h)
def arS (ty : Nat) : Prop := iir st fun x i k st' => ob (isAb wd k ty) ((0 ≤ i ∧ i < alen wd k) ∧ nx L st' (pA h k i.toNat x))
def wpP (i : Instr) : Prop := match i with
  | .aaload => ir st fun i k st' => ob (Nat.beq k 3000) ((0 ≤ i ∧ i < 133) ∧ nx L (.inr (.inr (2000 + i.toNat)) :: st') h)
  | .aload k => ldR L st h nx k
  | .aload_n k => ldR L st h nx k
  | .areturn => match st with
    | [.inr (.inr k)] => R (some (.inr (.inr k))) h
    | _ => False
  | .arraylength => r1 st fun k st' => ob (isAn wd k) (nx L (.inl (alen wd k) :: st') h)
  | .astore k => stR L st h nx k
  | .astore_n k => stR L st h nx k
  | .baload => arL wd L st h nx 2
  | .bastore => iir st fun x i k st' => ob (isAb wd k 2) ((0 ≤ i ∧ i < alen wd k) ∧ zok x (nx L st' (pA h k i.toNat x)))
  | .bipush n => nx L (.inl n :: st) h
  | .caload => arL wd L st h nx 3
  | .castore => iir st fun x i k st' => ob (isAb wd k 3) ((0 ≤ i ∧ i < alen wd k) ∧ (0 ≤ x ∧ x < 65536) ∧ nx L st' (pA h k i.toNat x))
  | .dup => match st with
    | .inl z :: st' => nx L (.inl z :: .inl z :: st') h
    | .inr (.inr z) :: st' => nx L (.inr (.inr z) :: .inr (.inr z) :: st') h
    | _ => False
  | .dup2 => match st with
    | .inl z :: .inr (.inr y) :: st' => nx L (.inl z :: .inr (.inr y) :: .inl z :: .inr (.inr y) :: st') h
    | _ => False
  | .goto o => jp ((pc : Int) + o).toNat L st h
  | .i2c => p1 st fun z st' => (0 ≤ z ∧ z < 65536) ∧ nx L (.inl z :: st') h
  | .i2l => p1 st fun z st' => nx L (.inr (.inl z) :: st') h
  | .iadd => bop L st h nx (fun a b => a + b)
  | .iaload => arL wd L st h nx 0
  | .iand => bof L st h nx andI
  | .iastore => arS wd L st h nx 0
  | .iconst n => nx L (.inl n :: st) h
  | .idiv => p2 st fun a b st' => (b ≠ 0 ∧ inR (a.tdiv b)) ∧ nx L (.inl (a.tdiv b) :: st') h
  | .if_icmp c o => p2 st fun a b st' => br (cmpI c a b) (jp ((pc : Int) + o).toNat L st' h) (nx L st' h)
  | .ifCond c o => p1 st fun a st' => br (cmpI c a 0) (jp ((pc : Int) + o).toNat L st' h) (nx L st' h)
  | .iinc k n => match lgt L k with
    | some (.inl z) => inR (z + n) ∧ nx (lst L k (some (.inl (z + n)))) st h
    | _ => False
  | .iload k => ldI L st h nx k
  | .iload_n k => ldI L st h nx k
  | .imul => bop L st h nx (fun a b => a * b)
  | .ineg => p1 st fun a st' => inR (-a) ∧ nx L (.inl (-a) :: st') h
  | .ior => bof L st h nx orI
  | .irem => p2 st fun a b st' => b ≠ 0 ∧ nx L (.inl (a.tmod b) :: st') h
  | .ireturn => match st with
    | [.inl z] => R (some (.inl z)) h
    | _ => False
  | .ishl => bof L st h nx shlI
  | .ishr => bof L st h nx shrI
  | .istore k => stI L st h nx k
  | .istore_n k => stI L st h nx k
  | .isub => bop L st h nx (fun a b => a - b)
  | .l2i => j1 st fun z st' => inR z ∧ nx L (.inl z :: st') h
  | .ladd => jop L st h nx (fun a b => a + b)
  | .laload => ir st fun i k st' => ob (isAb wd k 1) ((0 ≤ i ∧ i < alen wd k) ∧ nx L (.inr (.inl (gA h k i)) :: st') h)
  | .land => jof L st h nx andJ
  | .lastore => jir st fun x i k st' => ob (isAb wd k 1) ((0 ≤ i ∧ i < alen wd k) ∧ nx L st' (pA h k i.toNat x))
  | .lcmp => j2 st fun a b st' => nx L (.inl (cmpJ a b) :: st') h
  | .lconst n => nx L (.inr (.inl ((n : Nat) : Int)) :: st) h
  | .ldiv => j2 st fun a b st' => (b ≠ 0 ∧ inJ (a.tdiv b)) ∧ nx L (.inr (.inl (a.tdiv b)) :: st') h
  | .lload k => ldJ L st h nx k
  | .lload_n k => ldJ L st h nx k
  | .lmul => jop L st h nx (fun a b => a * b)
  | .lookupswitch d ps => p1 st fun z st' => swL pc z (fun t => jp t L st' h) d ps.toList
  | .lor => jof L st h nx orJ
  | .lrem => j2 st fun a b st' => b ≠ 0 ∧ nx L (.inr (.inl (a.tmod b)) :: st') h
  | .lreturn => match st with
    | [.inr (.inl z)] => R (some (.inr (.inl z))) h
    | _ => False
  | .lshl => jsh L st h nx shlJ
  | .lshr => jsh L st h nx shrJ
  | .lstore k => stJ L st h nx k
  | .lstore_n k => stJ L st h nx k
  | .lsub => jop L st h nx (fun a b => a - b)
  | .return_ => match st with
    | [] => R none h
    | _ => False
  | .sipush n => nx L (.inl n :: st) h
  | .tableswitch d lo hi os => p1 st fun z st' => (z < lo ∨ hi < z → jp ((pc : Int) + d).toNat L st' h) ∧ swT pc z (fun t => jp t L st' h) lo os.toList
  | _ => False
/-- the n top entries, the deepest first -/
def popN : Nat → List AV → List AV → Option (List AV × List AV)
  | 0, acc, st => some (acc, st)
  | n + 1, acc, v :: st => popN n (v :: acc) st
  | _ + 1, _, [] => none
def catS : List AV → Nat
  | [] => 0
  | .inl _ :: st => catS st + 1
  | .inr (.inl _) :: st => catS st + 2
  | .inr (.inr _) :: st => catS st + 1
/-- the receiver is of the class; 8: a text; 99: there is none -/
def rcv (cc : Nat) (as : List AV) (P : Prop) : Prop := match cc with
  | 99 => P
  | 8 => (match as with
    | .inr (.inr k) :: _ => ob (isStr k) P
    | _ => False)
  | n => (match as with
    | .inr (.inr k) :: _ => ob (isOb wd k n) P
    | _ => False)
def wpC (mid y : Nat) (z : Int) : Prop := match popN (y % 100) [] st with
  | some (as, st') => rcv wd (y / 100) as (ob (Nat.ble (catS st') 8) (match z with
    | 0 => call mid as h (rV fun h' => nx L st' h')
    | 1 => call mid as h (rI fun v h' => nx L (.inl v :: st') h')
    | 2 => call mid as h (rJ fun v h' => nx L (.inr (.inl v) :: st') h')
    | _ => call mid as h (rR fun v h' => nx L (.inr (.inr v) :: st') h')))
  | none => False
def wpX (q : Nat × Nat × Nat × Nat × Nat × Int) : Prop := match q with
  | (0, _, x, y, _, _) => r1 st fun k st' => ob (isOb wd k x) (nx L (.inl (gS h k y) :: st') h)
  | (1, _, x, y, _, _) => r1 st fun k st' => ob (isOb wd k x) (nx L (.inr (.inr (rfk wd k y)) :: st') h)
  | (2, _, x, y, _, _) => ir st fun z k st' => ob (isOb wd k x) (nx L st' (pS h k y z))
  | (3, _, x, y, _, _) => ir st fun z k st' => ob (isOb wd k x) (zok z (nx L st' (pS h k y z)))
  | (4, _, x, y, _, z) => wpC wd call L st h nx x y z
  | (5, _, _, _, _, z) => nx L (.inr (.inl z) :: st) h
  | (6, _, _, _, _, z) => nx L (.inl z :: st) h
  | (7, _, x, _, _, _) => nx L (.inr (.inr (1000 + x)) :: st) h
  | (8, _, _, _, _, _) => nx L (.inr (.inr 3000) :: st) h
  | (9, _, _, y, _, _) => r1 st fun k st' => ob (isEn k) (nx L (.inl (efI y (k - 2000)) :: st') h)
  | (10, _, _, _, _, _) => r1 st fun k st' => ob (isEn k) (nx L (.inr (.inr (1000 + efS (k - 2000))) :: st') h)
  | (11, _, _, _, _, _) => (match st with
    | [.inl z] => zok z (R (some (.inl z)) h)
    | _ => False)
  | (13, _, _, _, _, _) => r1 st fun k st' => ob (Nat.beq k 3000) (nx L (.inl 133 :: st') h)
  | (12, _, _, _, _, _) => ir st fun n k st' => ob (isEn k) (nx L (.inl (if efI 0 (k - 2000) ≤ n ∧ n ≤ efI 1 (k - 2000) then 1 else 0) :: st') h)
  | _ => False
end WPI
end
section
/-! the methods of the small machine by their numbers: name, code, locals, what it returns -/
abbrev MI : Type := MethodName × ByteArray × Nat × Option FieldType
def mtab_0 : List MI := [(yX7_feed, prog_1_method_2_code, 6, (some .boolean)),
  (yX7_putBytes, prog_1_method_3_code, 3, none),
  (yX7_end, prog_1_method_4_code, 2, (some .boolean)),
  (yX7_illAt, prog_1_method_7_code, 1, (some .int)),
  (yX7_word, prog_1_method_8_code, 2, (some .int)),
  (yX7_names, prog_1_method_9_code, 1, (some .int)),
  (yX7_name, prog_1_method_10_code, 3, (some .int)),
  (yX7_reference, prog_1_method_11_code, 6, (some .int)),
  (yX7_referencePart, prog_1_method_12_code, 5, (some .int)),
  (yX7_print, prog_1_method_13_code, 1, (some .int)),
  (yX7_output, prog_1_method_14_code, 2, (some .int)),
  (yX7_again, prog_1_method_15_code, 2, none),
  (yX7_isPlain, prog_1_method_16_code, 2, (some .boolean)),
  (yX7_isDigit, prog_1_method_17_code, 1, (some .boolean)),
  (yX7_isLetter, prog_1_method_18_code, 1, (some .boolean)),
  (yX7_isWordPart, prog_1_method_19_code, 1, (some .boolean)),
  (yX7_capital, prog_1_method_20_code, 1, (some .int)),
  (yX7_wordEnd, prog_1_method_21_code, 3, (some .int)),
  (yX7_startsWith, prog_1_method_22_code, 4, (some .boolean)),
  (yX7_isSame, prog_1_method_23_code, 4, (some .boolean)),
  (yX7_functionNumber, prog_1_method_24_code, 4, (some .int)),
  (yX7_errorText, prog_1_method_25_code, 1, (some (.object "java/lang/String"))),
  (yX7_operationText, prog_1_method_26_code, 1, (some (.object "java/lang/String"))),
  (yX7_item, prog_1_method_27_code, 2, (some .int)),
  (yX7_kindOf, prog_1_method_28_code, 1, (some .int)),
  (yX7_xOf, prog_1_method_29_code, 1, (some .int)),
  (yX7_itemSize, prog_1_method_30_code, 1, (some .int)),
  (yX8_thrown, prog_10_method_2_code, 1, (some .int)),
  (yX8_row, prog_10_method_3_code, 8, none),
  (yX8_fill, prog_10_method_4_code, 1, none),
  (yX8_put, prog_10_method_5_code, 3, none),
  (yX8_feed, prog_10_method_6_code, 6, (some .boolean)),
  (yX8_end, prog_10_method_7_code, 3, (some .boolean)),
  (yX8_look, prog_10_method_8_code, 2, (some .int)),
  (yX8_great, prog_10_method_9_code, 1, (some .int)),
  (yX8_isLetter, prog_10_method_10_code, 1, (some .boolean)),
  (yX8_isDigit, prog_10_method_11_code, 1, (some .boolean)),
  (yX8_isWordPart, prog_10_method_12_code, 1, (some .boolean)),
  (yX8_wordEnd, prog_10_method_13_code, 3, (some .int)),
  (yX8_isSheet, prog_10_method_14_code, 6, (some .boolean)),
  (yX8_findSheet, prog_10_method_15_code, 3, (some .int)),
  (yX8_sheet, prog_10_method_16_code, 3, (some .int)),
  (yX8_isAlone, prog_10_method_17_code, 3, (some .boolean)),
  (yX8_column, prog_10_method_18_code, 3, (some .boolean)),
  (yX8_line, prog_10_method_19_code, 3, (some .boolean)),
  (yX8_place, prog_10_method_20_code, 3, (some .boolean)),
  (yX8_twoColumns, prog_10_method_21_code, 3, (some .boolean)),
  (yX8_twoLines, prog_10_method_22_code, 3, (some .boolean)),
  (yX8_refers, prog_10_method_23_code, 4, (some .boolean)),
  (yX8_set, prog_10_method_24_code, 5, none),
  (yX8_withSheet, prog_10_method_25_code, 6, none),
  (yX8_quotedSheet, prog_10_method_26_code, 7, none),
  (yX8_string, prog_10_method_27_code, 7, none),
  (yX8_number, prog_10_method_28_code, 12, none),
  (yX8_exponent, prog_10_method_29_code, 7, none),
  (yX8_errorWord, prog_10_method_30_code, 1, (some .long)),
  (yX8_error, prog_10_method_31_code, 8, none),
  (yX8_sign, prog_10_method_32_code, 5, none),
  (yX8_mark, prog_10_method_33_code, 5, none),
  (yX8_token, prog_10_method_34_code, 5, none)]
def mtab_1 : List MI := [(yX8_read, prog_10_method_35_code, 3, none),
  (yX8_push, prog_10_method_36_code, 2, (some .boolean)),
  (yX8_isIn, prog_10_method_37_code, 2, (some .boolean)),
  (yX8_packed, prog_10_method_38_code, 6, (some .long)),
  (yX8_function, prog_10_method_39_code, 7, (some .int)),
  (yX8_isTrue, prog_10_method_40_code, 2, (some .boolean)),
  (yX8_isTruth, prog_10_method_41_code, 2, (some .boolean)),
  (yX8_close, prog_10_method_42_code, 4, (some .boolean)),
  (yX8_comma, prog_10_method_43_code, 1, (some .boolean)),
  (yX8_operand, prog_10_method_44_code, 3, (some .boolean)),
  (yX8_behind, prog_10_method_45_code, 2, (some .boolean)),
  (yX8_element, prog_10_method_46_code, 4, (some .boolean)),
  (yX8_behindElement, prog_10_method_47_code, 4, (some .boolean)),
  (yX8_check, prog_10_method_48_code, 4, (some .int)),
  (yX8_isName, prog_10_method_49_code, 5, (some .boolean)),
  (yX8_nameOf, prog_10_method_50_code, 3, (some .int)),
  (yX8_giveNames, prog_10_method_51_code, 3, (some .boolean)),
  (yX8_emit, prog_10_method_52_code, 2, none),
  (yX8_later, prog_10_method_53_code, 4, none),
  (yX8_rank, prog_10_method_54_code, 1, (some .int)),
  (yX8_next, prog_10_method_55_code, 2, (some .int)),
  (yX8_split, prog_10_method_56_code, 5, (some .int)),
  (yX8_emitNumber, prog_10_method_57_code, 5, none),
  (yX8_emitString, prog_10_method_58_code, 5, none),
  (yX8_emitReference, prog_10_method_59_code, 9, none),
  (yX8_emitToken, prog_10_method_60_code, 3, none),
  (yX8_emitArray, prog_10_method_61_code, 3, none),
  (yX8_call, prog_10_method_62_code, 8, none),
  (yX8_exchange, prog_10_method_63_code, 5, none),
  (yX8_expression, prog_10_method_64_code, 4, none),
  (yX8_emitCall, prog_10_method_65_code, 4, none),
  (yX8_makeCode, prog_10_method_66_code, 2, none),
  (yX8_compile, prog_10_method_67_code, 2, (some .int)),
  (yX8_sizeOf, prog_10_method_68_code, 3, (some .int)),
  (yX8_operands, prog_10_method_69_code, 3, (some .int)),
  (yX8_findItems, prog_10_method_70_code, 3, none),
  (yX8_reference, prog_10_method_71_code, 6, (some .int)),
  (yX8_out, prog_10_method_72_code, 2, none),
  (yX8_outNumber, prog_10_method_73_code, 5, none),
  (yX8_outPacked, prog_10_method_74_code, 4, none),
  (yX8_outColumn, prog_10_method_75_code, 2, none),
  (yX8_outDecimal, prog_10_method_76_code, 13, none),
  (yX8_digitAt, prog_10_method_77_code, 6, (some .int)),
  (yX8_outString, prog_10_method_78_code, 5, none),
  (yX8_isPlain, prog_10_method_79_code, 5, (some .boolean)),
  (yX8_outSheet, prog_10_method_80_code, 5, none),
  (yX8_outPlace, prog_10_method_81_code, 5, none),
  (yX8_outReference, prog_10_method_82_code, 5, none),
  (yX8_outName, prog_10_method_83_code, 3, none),
  (yX8_outOperation, prog_10_method_84_code, 2, none),
  (yX8_outPlain, prog_10_method_85_code, 3, none),
  (yX8_outArray, prog_10_method_86_code, 6, none),
  (yX8_outWord, prog_10_method_87_code, 3, none),
  (yX8_outItem, prog_10_method_88_code, 6, none),
  (yX8_print, prog_10_method_89_code, 1, (some .int)),
  (yX8_illAt, prog_10_method_90_code, 1, (some .int)),
  (yX8_word, prog_10_method_91_code, 2, (some .int)),
  (yX8_names, prog_10_method_92_code, 1, (some .int)),
  (yX8_name, prog_10_method_93_code, 3, (some .int)),
  (yX8_output, prog_10_method_94_code, 2, (some .int))]
def mtab_2 : List MI := [(yX8_again, prog_10_method_95_code, 2, none),
  (yX1_size, prog_3_method_2_code, 1, (some .int)),
  (yX1_letter, prog_3_method_3_code, 3, (some .int)),
  (yX1_run, prog_3_method_4_code, 4, none),
  (yX1_putPiece, prog_3_method_5_code, 3, none),
  (yX1_endOperand, prog_3_method_6_code, 4, none),
  (yX1_operandsOf, prog_3_method_7_code, 3, (some .int)),
  (yX1_writeClosing, prog_3_method_8_code, 3, none),
  (yX1_writeBetween, prog_3_method_9_code, 5, none),
  (yX1_writeOpening, prog_3_method_10_code, 3, none),
  (yX1_writeFunction, prog_3_method_11_code, 2, none),
  (yX1_writeName, prog_3_method_12_code, 3, none),
  (yX1_writeString, prog_3_method_13_code, 5, none),
  (yX1_writeSheet, prog_3_method_14_code, 5, none),
  (yX1_writeColumn, prog_3_method_15_code, 4, none),
  (yX1_writeRow, prog_3_method_16_code, 3, none),
  (yX1_writeRange, prog_3_method_17_code, 3, none),
  (yX1_writeNumber, prog_3_method_18_code, 5, none),
  (yX1_takeDigits, prog_3_method_19_code, 6, none),
  (yX1_writeDigits, prog_3_method_20_code, 3, none),
  (yX1_writeWithPoint, prog_3_method_21_code, 3, none),
  (yX1_writeWithExponent, prog_3_method_22_code, 3, none),
  (yX2_readText, prog_4_method_2_code, 2, (some .int)),
  (yX2_skipBlanks, prog_4_method_3_code, 1, none),
  (yX2_readOperand, prog_4_method_4_code, 2, none),
  (yX2_endItem, prog_4_method_5_code, 2, none),
  (yX2_endAtom, prog_4_method_6_code, 2, none),
  (yX2_readQuotedSheet, prog_4_method_7_code, 2, none),
  (yX2_readSheetReference, prog_4_method_8_code, 3, none),
  (yX2_readWord, prog_4_method_9_code, 4, none),
  (yX2_nameNumber, prog_4_method_10_code, 3, (some .int)),
  (yX2_open, prog_4_method_11_code, 3, none),
  (yX2_isInCall, prog_4_method_12_code, 1, (some .boolean)),
  (yX2_leaveOut, prog_4_method_13_code, 3, none),
  (yX2_passComma, prog_4_method_14_code, 2, none),
  (yX2_closeCall, prog_4_method_15_code, 3, none),
  (yX2_leave, prog_4_method_16_code, 1, none),
  (yX2_readOperator, prog_4_method_17_code, 2, none),
  (yX2_endText, prog_4_method_18_code, 1, none),
  (yX2_closeBracket, prog_4_method_19_code, 1, none),
  (yX2_joinOperands, prog_4_method_20_code, 2, none),
  (yX2_writeWaiting, prog_4_method_21_code, 3, none),
  (yX2_operationAt, prog_4_method_22_code, 2, (some .int)),
  (yX2_tightness, prog_4_method_23_code, 1, (some .int)),
  (yX2_openArray, prog_4_method_24_code, 1, none),
  (yX2_readElement, prog_4_method_25_code, 2, none),
  (yX2_isElement, prog_4_method_26_code, 5, (some .boolean)),
  (yX2_readSeparator, prog_4_method_27_code, 4, none),
  (yX3_size, prog_5_method_2_code, 1, (some .int)),
  (yX3_get, prog_5_method_3_code, 2, (some .int)),
  (yX3_last, prog_5_method_4_code, 2, (some .int)),
  (yX3_add, prog_5_method_5_code, 2, none),
  (yX3_changeLast, prog_5_method_6_code, 3, none),
  (yX3_addText, prog_5_method_7_code, 3, none),
  (yX3_addDecimal, prog_5_method_8_code, 3, none),
  (yX3_cut, prog_5_method_9_code, 2, none),
  (yX3_dropLast, prog_5_method_10_code, 1, none),
  (yX3_clear, prog_5_method_11_code, 1, none),
  (yX3_copy, prog_5_method_12_code, 3, none),
  (yX4_behind, prog_6_method_2_code, 1, (some .int))]
def mtab_3 : List MI := [(yX4_unfolded, prog_6_method_3_code, 1, (some (.object "FormulaCode$Row"))),
  (yX4_needsQuotes, prog_6_method_4_code, 2, (some .boolean)),
  (yX4_digitsEnd, prog_6_method_5_code, 3, (some .int)),
  (yX4_readNumber, prog_6_method_6_code, 5, (some .boolean)),
  (yX4_readExponent, prog_6_method_7_code, 6, (some .int)),
  (yX4_writeNumber, prog_6_method_8_code, 14, (some .boolean)),
  (yX4_powerAt, prog_6_method_9_code, 2, (some .int)),
  (yX4_readQuoted, prog_6_method_10_code, 6, (some .boolean)),
  (yX4_readString, prog_6_method_11_code, 4, (some .boolean)),
  (yX4_readError, prog_6_method_12_code, 3, (some .boolean)),
  (yX4_readLogical, prog_6_method_13_code, 4, (some .boolean)),
  (yX4_findReference, prog_6_method_14_code, 6, (some .boolean)),
  (yX4_writeReference, prog_6_method_15_code, 2, none),
  (yX4_writeRange, prog_6_method_16_code, 9, none),
  (yX5_isAt, prog_7_method_2_code, 7, (some .boolean)),
  (yX6_count, prog_8_method_2_code, 1, (some .int)),
  (yX6_isOverfull, prog_8_method_3_code, 1, (some .boolean)),
  (yX6_length, prog_8_method_4_code, 2, (some .int)),
  (yX6_letter, prog_8_method_5_code, 4, (some .int)),
  (yX6_find, prog_8_method_6_code, 8, (some .int)),
  (yX6_add, prog_8_method_7_code, 6, (some .int)),
  (yX6_keep, prog_8_method_8_code, 1, none),
  (yX6_forget, prog_8_method_9_code, 1, none),
  (⟨"java/lang/String", "length", "()I"⟩, prog_16_method_54_code, 1, (some .int)),
  (⟨"java/lang/String", "charAt", "(I)C"⟩, prog_16_method_56_code, 2, (some .char))]
def mtab : List MI := mtab_0 ++ (mtab_1 ++ (mtab_2 ++ (mtab_3)))
/-- the places of their words in the tables: code; instance or static; selects (0 where static); initialized -/
def mplc : List (Nat × Bool × Nat × Nat × Nat) := [(2021, false, 2019, 2020, 1001), (2029, false, 2028, 0, 1001), (2034, false, 2032, 2033, 1001), (2055, false, 2053, 2054, 1001), (2059, false, 2057, 2058, 1001), (2064, false, 2062, 2063, 1001),
  (2072, false, 2070, 2071, 1001), (2081, false, 2079, 2080, 1001), (2088, false, 2087, 1, 1001), (2098, false, 2096, 2097, 1001), (3069, false, 3067, 3068, 1001), (3078, false, 3076, 3077, 1001),
  (3090, true, 3089, 0, 1001), (3215, true, 3214, 0, 1001), (3191, true, 3190, 0, 1001), (3194, true, 3193, 0, 1001), (3164, true, 3163, 0, 1001), (3188, true, 3187, 0, 1001),
  (3202, true, 3201, 0, 1001), (3198, true, 3197, 0, 1001), (4114, true, 4113, 0, 1001), (2224, true, 2223, 0, 1001), (3024, true, 3023, 0, 1001), (4024, true, 4023, 0, 1001),
  (2084, true, 2083, 0, 1001), (2094, true, 2093, 0, 1001), (2091, true, 2090, 0, 1001), (6055, false, 6053, 6054, 1008), (4217, false, 4216, 49, 1008), (4212, false, 4211, 48, 1008),
  (6063, false, 6062, 50, 1008), (6059, false, 6057, 6058, 1008), (6067, false, 6065, 6066, 1008), (6094, false, 6093, 54, 1008), (6082, true, 6081, 0, 1008), (6109, true, 6108, 0, 1008),
  (6115, true, 6114, 0, 1008), (6112, true, 6111, 0, 1008), (6106, false, 6105, 57, 1008), (6079, false, 6078, 52, 1008), (6075, false, 6074, 51, 1008), (6071, false, 6069, 6070, 1008),
  (6144, false, 6143, 64, 1008), (6135, false, 6134, 62, 1008), (6139, false, 6138, 63, 1008), (6131, false, 6130, 61, 1008), (6148, false, 6147, 65, 1008), (6152, false, 6151, 66, 1008),
  (6127, false, 6126, 60, 1008), (6098, false, 6097, 55, 1008), (6123, false, 6122, 59, 1008), (6119, false, 6118, 58, 1008), (6156, false, 6155, 67, 1008), (6175, false, 6174, 69, 1008),
  (6180, false, 6179, 70, 1008), (6163, true, 6162, 0, 1008), (6160, false, 6159, 68, 1008), (6188, false, 6187, 72, 1008), (6184, false, 6183, 71, 1008), (6102, false, 6101, 56, 1008),
  (6090, false, 6089, 53, 1008), (6226, false, 6225, 81, 1008), (6196, false, 6195, 74, 1008), (6212, false, 6211, 78, 1008), (6238, false, 6237, 84, 1008), (6208, false, 6207, 77, 1008),
  (6204, false, 6203, 76, 1008), (6234, false, 6233, 83, 1008), (6230, false, 6229, 82, 1008), (6222, false, 6221, 80, 1008), (7002, false, 7001, 85, 1008), (6200, false, 6199, 75, 1008),
  (6218, false, 6217, 79, 1008), (6192, false, 6191, 73, 1008), (7014, false, 7013, 88, 1008), (7010, false, 7009, 87, 1008), (7006, false, 7005, 86, 1008), (7026, false, 7025, 91, 1008),
  (7022, false, 7021, 90, 1008), (7041, true, 7040, 0, 1008), (7045, false, 7044, 95, 1008), (7038, false, 7037, 94, 1008), (7065, false, 7064, 100, 1008), (7070, false, 7069, 101, 1008),
  (7074, false, 7073, 102, 1008), (7061, false, 7060, 99, 1008), (7057, false, 7056, 98, 1008), (7049, false, 7048, 96, 1008), (7053, false, 7052, 97, 1008), (7034, false, 7033, 93, 1008),
  (7030, false, 7029, 92, 1008), (7018, false, 7017, 89, 1008), (6086, false, 6084, 6085, 1008), (7082, false, 7081, 103, 1008), (7094, false, 7093, 105, 1008), (7090, false, 7089, 104, 1008),
  (7078, false, 7076, 7077, 1008), (7098, false, 7097, 106, 1008), (7122, false, 7121, 111, 1008), (7131, false, 7130, 113, 1008), (7151, false, 7150, 118, 1008), (7114, false, 7113, 110, 1008),
  (7118, true, 7117, 0, 1008), (7127, false, 7126, 112, 1008), (7143, false, 7142, 116, 1008), (7139, false, 7138, 115, 1008), (7147, false, 7146, 117, 1008), (7135, false, 7134, 114, 1008),
  (7155, false, 7154, 119, 1008), (7163, false, 7162, 121, 1008), (7110, false, 7109, 109, 1008), (7106, false, 7105, 108, 1008), (7159, false, 7158, 120, 1008), (7102, false, 7101, 107, 1008),
  (7086, false, 7084, 7085, 1008), (7167, false, 7165, 7166, 1008), (7171, false, 7169, 7170, 1008), (7175, false, 7173, 7174, 1008), (7179, false, 7177, 7178, 1008), (7183, false, 7181, 7182, 1008),
  (7187, false, 7185, 7186, 1008), (3064, false, 3062, 3063, 1007), (3073, false, 3071, 3072, 1007), (2102, false, 2100, 2101, 1007), (2172, false, 2171, 3, 1007), (3048, false, 3047, 18, 1007),
  (2176, false, 2175, 4, 1007), (2111, false, 2110, 2, 1007), (3056, false, 3055, 19, 1007), (2180, false, 2179, 5, 1007), (3042, false, 3041, 17, 1007), (3021, false, 3020, 16, 1007),
  (2219, false, 2218, 11, 1007), (2236, false, 2235, 12, 1007), (3008, false, 3007, 13, 1007), (3013, false, 3012, 14, 1007), (3017, false, 3016, 15, 1007), (2184, false, 2183, 6, 1007),
  (2188, false, 2187, 7, 1007), (2202, false, 2201, 9, 1007), (2215, false, 2214, 10, 1007), (2194, false, 2193, 8, 1007), (3236, false, 3234, 3235, 1006), (4003, false, 4002, 21, 1006),
  (4007, false, 4006, 22, 1006), (4067, false, 4066, 31, 1006), (4047, false, 4046, 29, 1006), (4082, false, 4081, 32, 1006), (4092, false, 4091, 33, 1006), (4110, false, 4109, 35, 1006),
  (4120, false, 4119, 36, 1006), (4012, false, 4011, 23, 1006), (4020, false, 4019, 25, 1006), (4016, false, 4015, 24, 1006), (4028, false, 4027, 26, 1006), (4033, false, 4032, 27, 1006),
  (4042, false, 4041, 28, 1006), (4153, false, 4152, 40, 1006), (4157, false, 4156, 41, 1006), (4168, false, 4167, 43, 1006), (4175, false, 4174, 44, 1006), (4161, false, 4160, 42, 1006),
  (4171, true, 4170, 0, 1006), (4164, true, 4163, 0, 1006), (4051, false, 4050, 30, 1006), (4181, false, 4180, 45, 1006), (4185, false, 4184, 46, 1006), (4190, false, 4189, 47, 1006),
  (2025, false, 2023, 2024, 1002), (2046, false, 2044, 2045, 1002), (2198, false, 2196, 2197, 1002), (1051, false, 1049, 1050, 1002), (3052, false, 3050, 3051, 1002), (2120, false, 2118, 2119, 1002),
  (2209, false, 2207, 2208, 1002), (2038, false, 2036, 2037, 1002), (3060, false, 3058, 3059, 1002), (2051, false, 2049, 2050, 1002), (2042, false, 2040, 2041, 1002), (4071, false, 4069, 4070, 1004),
  (4087, false, 4085, 4086, 1004), (3184, false, 3182, 3183, 1004), (4133, false, 4132, 37, 1004), (4129, false, 4127, 4128, 1004), (4138, false, 4137, 38, 1004), (4143, false, 4142, 39, 1004),
  (4146, true, 4145, 0, 1004), (4059, false, 4057, 4058, 1004), (4055, false, 4053, 4054, 1004), (4075, false, 4073, 4074, 1004), (4125, false, 4123, 4124, 1004), (4096, false, 4094, 4095, 1004),
  (4100, false, 4098, 4099, 1004), (4104, false, 4103, 34, 1004), (3209, false, 3207, 3208, 1005), (2068, false, 2066, 2067, 1003), (4201, false, 4199, 4200, 1003), (3001, false, 2239, 3000, 1003),
  (2076, false, 2074, 2075, 1003), (3160, false, 3158, 3159, 1003), (3221, false, 3219, 3220, 1003), (3225, false, 3223, 3224, 1003), (4194, false, 4192, 4193, 1003), (2124, false, 2122, 2123, 1014),
  (2134, false, 2132, 2133, 1014)]
abbrev mX7_feed : Nat := 0
abbrev mX7_putBytes : Nat := 1
abbrev mX7_end : Nat := 2
abbrev mX7_illAt : Nat := 3
abbrev mX7_word : Nat := 4
abbrev mX7_names : Nat := 5
abbrev mX7_name : Nat := 6
abbrev mX7_reference : Nat := 7
abbrev mX7_referencePart : Nat := 8
abbrev mX7_print : Nat := 9
abbrev mX7_output : Nat := 10
abbrev mX7_again : Nat := 11
abbrev mX7_isPlain : Nat := 12
abbrev mX7_isDigit : Nat := 13
abbrev mX7_isLetter : Nat := 14
abbrev mX7_isWordPart : Nat := 15
abbrev mX7_capital : Nat := 16
abbrev mX7_wordEnd : Nat := 17
abbrev mX7_startsWith : Nat := 18
abbrev mX7_isSame : Nat := 19
abbrev mX7_functionNumber : Nat := 20
abbrev mX7_errorText : Nat := 21
abbrev mX7_operationText : Nat := 22
abbrev mX7_item : Nat := 23
abbrev mX7_kindOf : Nat := 24
abbrev mX7_xOf : Nat := 25
abbrev mX7_itemSize : Nat := 26
abbrev mX8_thrown : Nat := 27
abbrev mX8_row : Nat := 28
abbrev mX8_fill : Nat := 29
abbrev mX8_put : Nat := 30
abbrev mX8_feed : Nat := 31
abbrev mX8_end : Nat := 32
abbrev mX8_look : Nat := 33
abbrev mX8_great : Nat := 34
abbrev mX8_isLetter : Nat := 35
abbrev mX8_isDigit : Nat := 36
abbrev mX8_isWordPart : Nat := 37
abbrev mX8_wordEnd : Nat := 38
abbrev mX8_isSheet : Nat := 39
abbrev mX8_findSheet : Nat := 40
abbrev mX8_sheet : Nat := 41
abbrev mX8_isAlone : Nat := 42
abbrev mX8_column : Nat := 43
abbrev mX8_line : Nat := 44
abbrev mX8_place : Nat := 45
abbrev mX8_twoColumns : Nat := 46
abbrev mX8_twoLines : Nat := 47
abbrev mX8_refers : Nat := 48
abbrev mX8_set : Nat := 49
abbrev mX8_withSheet : Nat := 50
abbrev mX8_quotedSheet : Nat := 51
abbrev mX8_string : Nat := 52
abbrev mX8_number : Nat := 53
abbrev mX8_exponent : Nat := 54
abbrev mX8_errorWord : Nat := 55
abbrev mX8_error : Nat := 56
abbrev mX8_sign : Nat := 57
abbrev mX8_mark : Nat := 58
abbrev mX8_token : Nat := 59
abbrev mX8_read : Nat := 60
abbrev mX8_push : Nat := 61
abbrev mX8_isIn : Nat := 62
abbrev mX8_packed : Nat := 63
abbrev mX8_function : Nat := 64
abbrev mX8_isTrue : Nat := 65
abbrev mX8_isTruth : Nat := 66
abbrev mX8_close : Nat := 67
abbrev mX8_comma : Nat := 68
abbrev mX8_operand : Nat := 69
abbrev mX8_behind : Nat := 70
abbrev mX8_element : Nat := 71
abbrev mX8_behindElement : Nat := 72
abbrev mX8_check : Nat := 73
abbrev mX8_isName : Nat := 74
abbrev mX8_nameOf : Nat := 75
abbrev mX8_giveNames : Nat := 76
abbrev mX8_emit : Nat := 77
abbrev mX8_later : Nat := 78
abbrev mX8_rank : Nat := 79
abbrev mX8_next : Nat := 80
abbrev mX8_split : Nat := 81
abbrev mX8_emitNumber : Nat := 82
abbrev mX8_emitString : Nat := 83
abbrev mX8_emitReference : Nat := 84
abbrev mX8_emitToken : Nat := 85
abbrev mX8_emitArray : Nat := 86
abbrev mX8_call : Nat := 87
abbrev mX8_exchange : Nat := 88
abbrev mX8_expression : Nat := 89
abbrev mX8_emitCall : Nat := 90
abbrev mX8_makeCode : Nat := 91
abbrev mX8_compile : Nat := 92
abbrev mX8_sizeOf : Nat := 93
abbrev mX8_operands : Nat := 94
abbrev mX8_findItems : Nat := 95
abbrev mX8_reference : Nat := 96
abbrev mX8_out : Nat := 97
abbrev mX8_outNumber : Nat := 98
abbrev mX8_outPacked : Nat := 99
abbrev mX8_outColumn : Nat := 100
abbrev mX8_outDecimal : Nat := 101
abbrev mX8_digitAt : Nat := 102
abbrev mX8_outString : Nat := 103
abbrev mX8_isPlain : Nat := 104
abbrev mX8_outSheet : Nat := 105
abbrev mX8_outPlace : Nat := 106
abbrev mX8_outReference : Nat := 107
abbrev mX8_outName : Nat := 108
abbrev mX8_outOperation : Nat := 109
abbrev mX8_outPlain : Nat := 110
abbrev mX8_outArray : Nat := 111
abbrev mX8_outWord : Nat := 112
abbrev mX8_outItem : Nat := 113
abbrev mX8_print : Nat := 114
abbrev mX8_illAt : Nat := 115
abbrev mX8_word : Nat := 116
abbrev mX8_names : Nat := 117
abbrev mX8_name : Nat := 118
abbrev mX8_output : Nat := 119
abbrev mX8_again : Nat := 120
abbrev mX1_size : Nat := 121
abbrev mX1_letter : Nat := 122
abbrev mX1_run : Nat := 123
abbrev mX1_putPiece : Nat := 124
abbrev mX1_endOperand : Nat := 125
abbrev mX1_operandsOf : Nat := 126
abbrev mX1_writeClosing : Nat := 127
abbrev mX1_writeBetween : Nat := 128
abbrev mX1_writeOpening : Nat := 129
abbrev mX1_writeFunction : Nat := 130
abbrev mX1_writeName : Nat := 131
abbrev mX1_writeString : Nat := 132
abbrev mX1_writeSheet : Nat := 133
abbrev mX1_writeColumn : Nat := 134
abbrev mX1_writeRow : Nat := 135
abbrev mX1_writeRange : Nat := 136
abbrev mX1_writeNumber : Nat := 137
abbrev mX1_takeDigits : Nat := 138
abbrev mX1_writeDigits : Nat := 139
abbrev mX1_writeWithPoint : Nat := 140
abbrev mX1_writeWithExponent : Nat := 141
abbrev mX2_readText : Nat := 142
abbrev mX2_skipBlanks : Nat := 143
abbrev mX2_readOperand : Nat := 144
abbrev mX2_endItem : Nat := 145
abbrev mX2_endAtom : Nat := 146
abbrev mX2_readQuotedSheet : Nat := 147
abbrev mX2_readSheetReference : Nat := 148
abbrev mX2_readWord : Nat := 149
abbrev mX2_nameNumber : Nat := 150
abbrev mX2_open : Nat := 151
abbrev mX2_isInCall : Nat := 152
abbrev mX2_leaveOut : Nat := 153
abbrev mX2_passComma : Nat := 154
abbrev mX2_closeCall : Nat := 155
abbrev mX2_leave : Nat := 156
abbrev mX2_readOperator : Nat := 157
abbrev mX2_endText : Nat := 158
abbrev mX2_closeBracket : Nat := 159
abbrev mX2_joinOperands : Nat := 160
abbrev mX2_writeWaiting : Nat := 161
abbrev mX2_operationAt : Nat := 162
abbrev mX2_tightness : Nat := 163
abbrev mX2_openArray : Nat := 164
abbrev mX2_readElement : Nat := 165
abbrev mX2_isElement : Nat := 166
abbrev mX2_readSeparator : Nat := 167
abbrev mX3_size : Nat := 168
abbrev mX3_get : Nat := 169
abbrev mX3_last : Nat := 170
abbrev mX3_add : Nat := 171
abbrev mX3_changeLast : Nat := 172
abbrev mX3_addText : Nat := 173
abbrev mX3_addDecimal : Nat := 174
abbrev mX3_cut : Nat := 175
abbrev mX3_dropLast : Nat := 176
abbrev mX3_clear : Nat := 177
abbrev mX3_copy : Nat := 178
abbrev mX4_behind : Nat := 179
abbrev mX4_unfolded : Nat := 180
abbrev mX4_needsQuotes : Nat := 181
abbrev mX4_digitsEnd : Nat := 182
abbrev mX4_readNumber : Nat := 183
abbrev mX4_readExponent : Nat := 184
abbrev mX4_writeNumber : Nat := 185
abbrev mX4_powerAt : Nat := 186
abbrev mX4_readQuoted : Nat := 187
abbrev mX4_readString : Nat := 188
abbrev mX4_readError : Nat := 189
abbrev mX4_readLogical : Nat := 190
abbrev mX4_findReference : Nat := 191
abbrev mX4_writeReference : Nat := 192
abbrev mX4_writeRange : Nat := 193
abbrev mX5_isAt : Nat := 194
abbrev mX6_count : Nat := 195
abbrev mX6_isOverfull : Nat := 196
abbrev mX6_length : Nat := 197
abbrev mX6_letter : Nat := 198
abbrev mX6_find : Nat := 199
abbrev mX6_add : Nat := 200
abbrev mX6_keep : Nat := 201
abbrev mX6_forget : Nat := 202
abbrev mS_length : Nat := 203
abbrev mS_charAt : Nat := 204
def mt (k : Nat) : MI := mtab.getD k (⟨"", "", ""⟩, ⟨#[]⟩, 0, none)
def tb : List Cond := lw_tbl.filter goodWord
/-- the word at a place: table and row -/
def tbN : Nat → List Cond
  | 0 => k2_sels lw_privs
  | 1 => tables_1_1
  | 2 => tables_1_2
  | 3 => tables_1_3
  | 4 => tables_1_4
  | 5 => tables_1_5
  | 6 => tables_1_6
  | 7 => tables_1_7
  | 8 => tables_1_8
  | _ => []
def tg (p : Nat) : Option Cond := (tbN (p / 1000))[p % 1000]?
theorem tbN_in : ∀ (t : Nat) (w : Cond), w ∈ tbN t → w ∈ lw_tbl := by
  intro t w h
  show w ∈ k2_sels lw_privs ++ (tables_1_1 ++ (tables_1_2 ++ (tables_1_3 ++ (tables_1_4 ++ (tables_1_5 ++ (tables_1_6 ++ (tables_1_7 ++ tables_1_8)))))))
  simp only [List.mem_append]
  match t, h with
  | 0, h => exact Or.inl h
  | 1, h => exact Or.inr (Or.inl h)
  | 2, h => exact Or.inr (Or.inr (Or.inl h))
  | 3, h => exact Or.inr (Or.inr (Or.inr (Or.inl h)))
  | 4, h => exact Or.inr (Or.inr (Or.inr (Or.inr (Or.inl h))))
  | 5, h => exact Or.inr (Or.inr (Or.inr (Or.inr (Or.inr (Or.inl h)))))
  | 6, h => exact Or.inr (Or.inr (Or.inr (Or.inr (Or.inr (Or.inr (Or.inl h))))))
  | 7, h => exact Or.inr (Or.inr (Or.inr (Or.inr (Or.inr (Or.inr (Or.inr (Or.inl h)))))))
  | 8, h => exact Or.inr (Or.inr (Or.inr (Or.inr (Or.inr (Or.inr (Or.inr (Or.inr h)))))))
  | _ + 9, h => exact absurd h List.not_mem_nil
theorem tb_in {p : Nat} {w : Cond} (h : tg p = some w) (g : goodWord w = true) : w ∈ tb := List.mem_filter.mpr ⟨tbN_in _ _ (List.mem_of_getElem? h), g⟩
def mwd (q : MI) (st : Bool) : Cond × Cond × Cond × Cond := (.code q.1 q.2.1 q.2.2.1 q.2.2.2, if st then .static q.1 else .instanceMethod q.1, if st then .static q.1 else .selects q.1.cls q.1 q.1, .initialized q.1.cls)
def mchk (q : MI) (p : Nat × Bool × Nat × Nat × Nat) : Bool := decide (tg p.2.2.1 = some (mwd q p.2.1).2.1) && (p.2.1 || decide (tg p.2.2.2.1 = some (mwd q p.2.1).2.2.1)) && decide (tg p.2.2.2.2 = some (mwd q p.2.1).2.2.2)
  && goodWord (mwd q p.2.1).2.1 && goodWord (mwd q p.2.1).2.2.1 && goodWord (mwd q p.2.1).2.2.2
  && decide (q.1.cls ≠ "java/lang/invoke/MethodHandle") && decide (q.1.cls ≠ "java/lang/invoke/VarHandle") && decide (q.2.2.1 ≤ 15) && plainName q.1.cls
set_option maxRecDepth 100000 in
theorem mchk_all : (List.zip mtab mplc).all (fun q => mchk q.1 q.2) = true := by decide +kernel
abbrev nM : Nat := 205
theorem mtab_len : mtab.length = 205 := by decide +kernel
theorem mplc_len : mplc.length = 205 := by decide +kernel
set_option maxRecDepth 100000 in
theorem mcd_0 : tg 2021 = some (.code (mt 0).1 (mt 0).2.1 (mt 0).2.2.1 (mt 0).2.2.2) := rfl
set_option maxRecDepth 100000 in
theorem mcd_1 : tg 2029 = some (.code (mt 1).1 (mt 1).2.1 (mt 1).2.2.1 (mt 1).2.2.2) := rfl
set_option maxRecDepth 100000 in
theorem mcd_2 : tg 2034 = some (.code (mt 2).1 (mt 2).2.1 (mt 2).2.2.1 (mt 2).2.2.2) := rfl
set_option maxRecDepth 100000 in
theorem mcd_3 : tg 2055 = some (.code (mt 3).1 (mt 3).2.1 (mt 3).2.2.1 (mt 3).2.2.2) := rfl
set_option maxRecDepth 100000 in
theorem mcd_4 : tg 2059 = some (.code (mt 4).1 (mt 4).2.1 (mt 4).2.2.1 (mt 4).2.2.2) := rfl
set_option maxRecDepth 100000 in
theorem mcd_5 : tg 2064 = some (.code (mt 5).1 (mt 5).2.1 (mt 5).2.2.1 (mt 5).2.2.2) := rfl
set_option maxRecDepth 100000 in
theorem mcd_6 : tg 2072 = some (.code (mt 6).1 (mt 6).2.1 (mt 6).2.2.1 (mt 6).2.2.2) := rfl
set_option maxRecDepth 100000 in
theorem mcd_7 : tg 2081 = some (.code (mt 7).1 (mt 7).2.1 (mt 7).2.2.1 (mt 7).2.2.2) := rfl
set_option maxRecDepth 100000 in
theorem mcd_8 : tg 2088 = some (.code (mt 8).1 (mt 8).2.1 (mt 8).2.2.1 (mt 8).2.2.2) := rfl
set_option maxRecDepth 100000 in
theorem mcd_9 : tg 2098 = some (.code (mt 9).1 (mt 9).2.1 (mt 9).2.2.1 (mt 9).2.2.2) := rfl
set_option maxRecDepth 100000 in
theorem mcd_10 : tg 3069 = some (.code (mt 10).1 (mt 10).2.1 (mt 10).2.2.1 (mt 10).2.2.2) := rfl
set_option maxRecDepth 100000 in
theorem mcd_11 : tg 3078 = some (.code (mt 11).1 (mt 11).2.1 (mt 11).2.2.1 (mt 11).2.2.2) := rfl
set_option maxRecDepth 100000 in
theorem mcd_12 : tg 3090 = some (.code (mt 12).1 (mt 12).2.1 (mt 12).2.2.1 (mt 12).2.2.2) := rfl
set_option maxRecDepth 100000 in
theorem mcd_13 : tg 3215 = some (.code (mt 13).1 (mt 13).2.1 (mt 13).2.2.1 (mt 13).2.2.2) := rfl
set_option maxRecDepth 100000 in
theorem mcd_14 : tg 3191 = some (.code (mt 14).1 (mt 14).2.1 (mt 14).2.2.1 (mt 14).2.2.2) := rfl
set_option maxRecDepth 100000 in
theorem mcd_15 : tg 3194 = some (.code (mt 15).1 (mt 15).2.1 (mt 15).2.2.1 (mt 15).2.2.2) := rfl
set_option maxRecDepth 100000 in
theorem mcd_16 : tg 3164 = some (.code (mt 16).1 (mt 16).2.1 (mt 16).2.2.1 (mt 16).2.2.2) := rfl
set_option maxRecDepth 100000 in
theorem mcd_17 : tg 3188 = some (.code (mt 17).1 (mt 17).2.1 (mt 17).2.2.1 (mt 17).2.2.2) := rfl
set_option maxRecDepth 100000 in
theorem mcd_18 : tg 3202 = some (.code (mt 18).1 (mt 18).2.1 (mt 18).2.2.1 (mt 18).2.2.2) := rfl
set_option maxRecDepth 100000 in
theorem mcd_19 : tg 3198 = some (.code (mt 19).1 (mt 19).2.1 (mt 19).2.2.1 (mt 19).2.2.2) := rfl
set_option maxRecDepth 100000 in
theorem mcd_20 : tg 4114 = some (.code (mt 20).1 (mt 20).2.1 (mt 20).2.2.1 (mt 20).2.2.2) := rfl
set_option maxRecDepth 100000 in
theorem mcd_21 : tg 2224 = some (.code (mt 21).1 (mt 21).2.1 (mt 21).2.2.1 (mt 21).2.2.2) := rfl
set_option maxRecDepth 100000 in
theorem mcd_22 : tg 3024 = some (.code (mt 22).1 (mt 22).2.1 (mt 22).2.2.1 (mt 22).2.2.2) := rfl
set_option maxRecDepth 100000 in
theorem mcd_23 : tg 4024 = some (.code (mt 23).1 (mt 23).2.1 (mt 23).2.2.1 (mt 23).2.2.2) := rfl
set_option maxRecDepth 100000 in
theorem mcd_24 : tg 2084 = some (.code (mt 24).1 (mt 24).2.1 (mt 24).2.2.1 (mt 24).2.2.2) := rfl
set_option maxRecDepth 100000 in
theorem mcd_25 : tg 2094 = some (.code (mt 25).1 (mt 25).2.1 (mt 25).2.2.1 (mt 25).2.2.2) := rfl
set_option maxRecDepth 100000 in
theorem mcd_26 : tg 2091 = some (.code (mt 26).1 (mt 26).2.1 (mt 26).2.2.1 (mt 26).2.2.2) := rfl
set_option maxRecDepth 100000 in
theorem mcd_27 : tg 6055 = some (.code (mt 27).1 (mt 27).2.1 (mt 27).2.2.1 (mt 27).2.2.2) := rfl
set_option maxRecDepth 100000 in
theorem mcd_28 : tg 4217 = some (.code (mt 28).1 (mt 28).2.1 (mt 28).2.2.1 (mt 28).2.2.2) := rfl
set_option maxRecDepth 100000 in
theorem mcd_29 : tg 4212 = some (.code (mt 29).1 (mt 29).2.1 (mt 29).2.2.1 (mt 29).2.2.2) := rfl
set_option maxRecDepth 100000 in
theorem mcd_30 : tg 6063 = some (.code (mt 30).1 (mt 30).2.1 (mt 30).2.2.1 (mt 30).2.2.2) := rfl
set_option maxRecDepth 100000 in
theorem mcd_31 : tg 6059 = some (.code (mt 31).1 (mt 31).2.1 (mt 31).2.2.1 (mt 31).2.2.2) := rfl
set_option maxRecDepth 100000 in
theorem mcd_32 : tg 6067 = some (.code (mt 32).1 (mt 32).2.1 (mt 32).2.2.1 (mt 32).2.2.2) := rfl
set_option maxRecDepth 100000 in
theorem mcd_33 : tg 6094 = some (.code (mt 33).1 (mt 33).2.1 (mt 33).2.2.1 (mt 33).2.2.2) := rfl
set_option maxRecDepth 100000 in
theorem mcd_34 : tg 6082 = some (.code (mt 34).1 (mt 34).2.1 (mt 34).2.2.1 (mt 34).2.2.2) := rfl
set_option maxRecDepth 100000 in
theorem mcd_35 : tg 6109 = some (.code (mt 35).1 (mt 35).2.1 (mt 35).2.2.1 (mt 35).2.2.2) := rfl
set_option maxRecDepth 100000 in
theorem mcd_36 : tg 6115 = some (.code (mt 36).1 (mt 36).2.1 (mt 36).2.2.1 (mt 36).2.2.2) := rfl
set_option maxRecDepth 100000 in
theorem mcd_37 : tg 6112 = some (.code (mt 37).1 (mt 37).2.1 (mt 37).2.2.1 (mt 37).2.2.2) := rfl
set_option maxRecDepth 100000 in
theorem mcd_38 : tg 6106 = some (.code (mt 38).1 (mt 38).2.1 (mt 38).2.2.1 (mt 38).2.2.2) := rfl
set_option maxRecDepth 100000 in
theorem mcd_39 : tg 6079 = some (.code (mt 39).1 (mt 39).2.1 (mt 39).2.2.1 (mt 39).2.2.2) := rfl
set_option maxRecDepth 100000 in
theorem mcd_40 : tg 6075 = some (.code (mt 40).1 (mt 40).2.1 (mt 40).2.2.1 (mt 40).2.2.2) := rfl
set_option maxRecDepth 100000 in
theorem mcd_41 : tg 6071 = some (.code (mt 41).1 (mt 41).2.1 (mt 41).2.2.1 (mt 41).2.2.2) := rfl
set_option maxRecDepth 100000 in
theorem mcd_42 : tg 6144 = some (.code (mt 42).1 (mt 42).2.1 (mt 42).2.2.1 (mt 42).2.2.2) := rfl
set_option maxRecDepth 100000 in
theorem mcd_43 : tg 6135 = some (.code (mt 43).1 (mt 43).2.1 (mt 43).2.2.1 (mt 43).2.2.2) := rfl
set_option maxRecDepth 100000 in
theorem mcd_44 : tg 6139 = some (.code (mt 44).1 (mt 44).2.1 (mt 44).2.2.1 (mt 44).2.2.2) := rfl
set_option maxRecDepth 100000 in
theorem mcd_45 : tg 6131 = some (.code (mt 45).1 (mt 45).2.1 (mt 45).2.2.1 (mt 45).2.2.2) := rfl
set_option maxRecDepth 100000 in
theorem mcd_46 : tg 6148 = some (.code (mt 46).1 (mt 46).2.1 (mt 46).2.2.1 (mt 46).2.2.2) := rfl
set_option maxRecDepth 100000 in
theorem mcd_47 : tg 6152 = some (.code (mt 47).1 (mt 47).2.1 (mt 47).2.2.1 (mt 47).2.2.2) := rfl
set_option maxRecDepth 100000 in
theorem mcd_48 : tg 6127 = some (.code (mt 48).1 (mt 48).2.1 (mt 48).2.2.1 (mt 48).2.2.2) := rfl
set_option maxRecDepth 100000 in
theorem mcd_49 : tg 6098 = some (.code (mt 49).1 (mt 49).2.1 (mt 49).2.2.1 (mt 49).2.2.2) := rfl
set_option maxRecDepth 100000 in
theorem mcd_50 : tg 6123 = some (.code (mt 50).1 (mt 50).2.1 (mt 50).2.2.1 (mt 50).2.2.2) := rfl
set_option maxRecDepth 100000 in
theorem mcd_51 : tg 6119 = some (.code (mt 51).1 (mt 51).2.1 (mt 51).2.2.1 (mt 51).2.2.2) := rfl
set_option maxRecDepth 100000 in
theorem mcd_52 : tg 6156 = some (.code (mt 52).1 (mt 52).2.1 (mt 52).2.2.1 (mt 52).2.2.2) := rfl
set_option maxRecDepth 100000 in
theorem mcd_53 : tg 6175 = some (.code (mt 53).1 (mt 53).2.1 (mt 53).2.2.1 (mt 53).2.2.2) := rfl
set_option maxRecDepth 100000 in
theorem mcd_54 : tg 6180 = some (.code (mt 54).1 (mt 54).2.1 (mt 54).2.2.1 (mt 54).2.2.2) := rfl
set_option maxRecDepth 100000 in
theorem mcd_55 : tg 6163 = some (.code (mt 55).1 (mt 55).2.1 (mt 55).2.2.1 (mt 55).2.2.2) := rfl
set_option maxRecDepth 100000 in
theorem mcd_56 : tg 6160 = some (.code (mt 56).1 (mt 56).2.1 (mt 56).2.2.1 (mt 56).2.2.2) := rfl
set_option maxRecDepth 100000 in
theorem mcd_57 : tg 6188 = some (.code (mt 57).1 (mt 57).2.1 (mt 57).2.2.1 (mt 57).2.2.2) := rfl
set_option maxRecDepth 100000 in
theorem mcd_58 : tg 6184 = some (.code (mt 58).1 (mt 58).2.1 (mt 58).2.2.1 (mt 58).2.2.2) := rfl
set_option maxRecDepth 100000 in
theorem mcd_59 : tg 6102 = some (.code (mt 59).1 (mt 59).2.1 (mt 59).2.2.1 (mt 59).2.2.2) := rfl
set_option maxRecDepth 100000 in
theorem mcd_60 : tg 6090 = some (.code (mt 60).1 (mt 60).2.1 (mt 60).2.2.1 (mt 60).2.2.2) := rfl
set_option maxRecDepth 100000 in
theorem mcd_61 : tg 6226 = some (.code (mt 61).1 (mt 61).2.1 (mt 61).2.2.1 (mt 61).2.2.2) := rfl
set_option maxRecDepth 100000 in
theorem mcd_62 : tg 6196 = some (.code (mt 62).1 (mt 62).2.1 (mt 62).2.2.1 (mt 62).2.2.2) := rfl
set_option maxRecDepth 100000 in
theorem mcd_63 : tg 6212 = some (.code (mt 63).1 (mt 63).2.1 (mt 63).2.2.1 (mt 63).2.2.2) := rfl
set_option maxRecDepth 100000 in
theorem mcd_64 : tg 6238 = some (.code (mt 64).1 (mt 64).2.1 (mt 64).2.2.1 (mt 64).2.2.2) := rfl
set_option maxRecDepth 100000 in
theorem mcd_65 : tg 6208 = some (.code (mt 65).1 (mt 65).2.1 (mt 65).2.2.1 (mt 65).2.2.2) := rfl
set_option maxRecDepth 100000 in
theorem mcd_66 : tg 6204 = some (.code (mt 66).1 (mt 66).2.1 (mt 66).2.2.1 (mt 66).2.2.2) := rfl
set_option maxRecDepth 100000 in
theorem mcd_67 : tg 6234 = some (.code (mt 67).1 (mt 67).2.1 (mt 67).2.2.1 (mt 67).2.2.2) := rfl
set_option maxRecDepth 100000 in
theorem mcd_68 : tg 6230 = some (.code (mt 68).1 (mt 68).2.1 (mt 68).2.2.1 (mt 68).2.2.2) := rfl
set_option maxRecDepth 100000 in
theorem mcd_69 : tg 6222 = some (.code (mt 69).1 (mt 69).2.1 (mt 69).2.2.1 (mt 69).2.2.2) := rfl
set_option maxRecDepth 100000 in
theorem mcd_70 : tg 7002 = some (.code (mt 70).1 (mt 70).2.1 (mt 70).2.2.1 (mt 70).2.2.2) := rfl
set_option maxRecDepth 100000 in
theorem mcd_71 : tg 6200 = some (.code (mt 71).1 (mt 71).2.1 (mt 71).2.2.1 (mt 71).2.2.2) := rfl
set_option maxRecDepth 100000 in
theorem mcd_72 : tg 6218 = some (.code (mt 72).1 (mt 72).2.1 (mt 72).2.2.1 (mt 72).2.2.2) := rfl
set_option maxRecDepth 100000 in
theorem mcd_73 : tg 6192 = some (.code (mt 73).1 (mt 73).2.1 (mt 73).2.2.1 (mt 73).2.2.2) := rfl
set_option maxRecDepth 100000 in
theorem mcd_74 : tg 7014 = some (.code (mt 74).1 (mt 74).2.1 (mt 74).2.2.1 (mt 74).2.2.2) := rfl
set_option maxRecDepth 100000 in
theorem mcd_75 : tg 7010 = some (.code (mt 75).1 (mt 75).2.1 (mt 75).2.2.1 (mt 75).2.2.2) := rfl
set_option maxRecDepth 100000 in
theorem mcd_76 : tg 7006 = some (.code (mt 76).1 (mt 76).2.1 (mt 76).2.2.1 (mt 76).2.2.2) := rfl
set_option maxRecDepth 100000 in
theorem mcd_77 : tg 7026 = some (.code (mt 77).1 (mt 77).2.1 (mt 77).2.2.1 (mt 77).2.2.2) := rfl
set_option maxRecDepth 100000 in
theorem mcd_78 : tg 7022 = some (.code (mt 78).1 (mt 78).2.1 (mt 78).2.2.1 (mt 78).2.2.2) := rfl
set_option maxRecDepth 100000 in
theorem mcd_79 : tg 7041 = some (.code (mt 79).1 (mt 79).2.1 (mt 79).2.2.1 (mt 79).2.2.2) := rfl
set_option maxRecDepth 100000 in
theorem mcd_80 : tg 7045 = some (.code (mt 80).1 (mt 80).2.1 (mt 80).2.2.1 (mt 80).2.2.2) := rfl
set_option maxRecDepth 100000 in
theorem mcd_81 : tg 7038 = some (.code (mt 81).1 (mt 81).2.1 (mt 81).2.2.1 (mt 81).2.2.2) := rfl
set_option maxRecDepth 100000 in
theorem mcd_82 : tg 7065 = some (.code (mt 82).1 (mt 82).2.1 (mt 82).2.2.1 (mt 82).2.2.2) := rfl
set_option maxRecDepth 100000 in
theorem mcd_83 : tg 7070 = some (.code (mt 83).1 (mt 83).2.1 (mt 83).2.2.1 (mt 83).2.2.2) := rfl
set_option maxRecDepth 100000 in
theorem mcd_84 : tg 7074 = some (.code (mt 84).1 (mt 84).2.1 (mt 84).2.2.1 (mt 84).2.2.2) := rfl
set_option maxRecDepth 100000 in
theorem mcd_85 : tg 7061 = some (.code (mt 85).1 (mt 85).2.1 (mt 85).2.2.1 (mt 85).2.2.2) := rfl
set_option maxRecDepth 100000 in
theorem mcd_86 : tg 7057 = some (.code (mt 86).1 (mt 86).2.1 (mt 86).2.2.1 (mt 86).2.2.2) := rfl
set_option maxRecDepth 100000 in
theorem mcd_87 : tg 7049 = some (.code (mt 87).1 (mt 87).2.1 (mt 87).2.2.1 (mt 87).2.2.2) := rfl
set_option maxRecDepth 100000 in
theorem mcd_88 : tg 7053 = some (.code (mt 88).1 (mt 88).2.1 (mt 88).2.2.1 (mt 88).2.2.2) := rfl
set_option maxRecDepth 100000 in
theorem mcd_89 : tg 7034 = some (.code (mt 89).1 (mt 89).2.1 (mt 89).2.2.1 (mt 89).2.2.2) := rfl
set_option maxRecDepth 100000 in
theorem mcd_90 : tg 7030 = some (.code (mt 90).1 (mt 90).2.1 (mt 90).2.2.1 (mt 90).2.2.2) := rfl
set_option maxRecDepth 100000 in
theorem mcd_91 : tg 7018 = some (.code (mt 91).1 (mt 91).2.1 (mt 91).2.2.1 (mt 91).2.2.2) := rfl
set_option maxRecDepth 100000 in
theorem mcd_92 : tg 6086 = some (.code (mt 92).1 (mt 92).2.1 (mt 92).2.2.1 (mt 92).2.2.2) := rfl
set_option maxRecDepth 100000 in
theorem mcd_93 : tg 7082 = some (.code (mt 93).1 (mt 93).2.1 (mt 93).2.2.1 (mt 93).2.2.2) := rfl
set_option maxRecDepth 100000 in
theorem mcd_94 : tg 7094 = some (.code (mt 94).1 (mt 94).2.1 (mt 94).2.2.1 (mt 94).2.2.2) := rfl
set_option maxRecDepth 100000 in
theorem mcd_95 : tg 7090 = some (.code (mt 95).1 (mt 95).2.1 (mt 95).2.2.1 (mt 95).2.2.2) := rfl
set_option maxRecDepth 100000 in
theorem mcd_96 : tg 7078 = some (.code (mt 96).1 (mt 96).2.1 (mt 96).2.2.1 (mt 96).2.2.2) := rfl
set_option maxRecDepth 100000 in
theorem mcd_97 : tg 7098 = some (.code (mt 97).1 (mt 97).2.1 (mt 97).2.2.1 (mt 97).2.2.2) := rfl
set_option maxRecDepth 100000 in
theorem mcd_98 : tg 7122 = some (.code (mt 98).1 (mt 98).2.1 (mt 98).2.2.1 (mt 98).2.2.2) := rfl
set_option maxRecDepth 100000 in
theorem mcd_99 : tg 7131 = some (.code (mt 99).1 (mt 99).2.1 (mt 99).2.2.1 (mt 99).2.2.2) := rfl
set_option maxRecDepth 100000 in
theorem mcd_100 : tg 7151 = some (.code (mt 100).1 (mt 100).2.1 (mt 100).2.2.1 (mt 100).2.2.2) := rfl
set_option maxRecDepth 100000 in
theorem mcd_101 : tg 7114 = some (.code (mt 101).1 (mt 101).2.1 (mt 101).2.2.1 (mt 101).2.2.2) := rfl
set_option maxRecDepth 100000 in
theorem mcd_102 : tg 7118 = some (.code (mt 102).1 (mt 102).2.1 (mt 102).2.2.1 (mt 102).2.2.2) := rfl
set_option maxRecDepth 100000 in
theorem mcd_103 : tg 7127 = some (.code (mt 103).1 (mt 103).2.1 (mt 103).2.2.1 (mt 103).2.2.2) := rfl
set_option maxRecDepth 100000 in
theorem mcd_104 : tg 7143 = some (.code (mt 104).1 (mt 104).2.1 (mt 104).2.2.1 (mt 104).2.2.2) := rfl
set_option maxRecDepth 100000 in
theorem mcd_105 : tg 7139 = some (.code (mt 105).1 (mt 105).2.1 (mt 105).2.2.1 (mt 105).2.2.2) := rfl
set_option maxRecDepth 100000 in
theorem mcd_106 : tg 7147 = some (.code (mt 106).1 (mt 106).2.1 (mt 106).2.2.1 (mt 106).2.2.2) := rfl
set_option maxRecDepth 100000 in
theorem mcd_107 : tg 7135 = some (.code (mt 107).1 (mt 107).2.1 (mt 107).2.2.1 (mt 107).2.2.2) := rfl
set_option maxRecDepth 100000 in
theorem mcd_108 : tg 7155 = some (.code (mt 108).1 (mt 108).2.1 (mt 108).2.2.1 (mt 108).2.2.2) := rfl
set_option maxRecDepth 100000 in
theorem mcd_109 : tg 7163 = some (.code (mt 109).1 (mt 109).2.1 (mt 109).2.2.1 (mt 109).2.2.2) := rfl
set_option maxRecDepth 100000 in
theorem mcd_110 : tg 7110 = some (.code (mt 110).1 (mt 110).2.1 (mt 110).2.2.1 (mt 110).2.2.2) := rfl
set_option maxRecDepth 100000 in
theorem mcd_111 : tg 7106 = some (.code (mt 111).1 (mt 111).2.1 (mt 111).2.2.1 (mt 111).2.2.2) := rfl
set_option maxRecDepth 100000 in
theorem mcd_112 : tg 7159 = some (.code (mt 112).1 (mt 112).2.1 (mt 112).2.2.1 (mt 112).2.2.2) := rfl
set_option maxRecDepth 100000 in
theorem mcd_113 : tg 7102 = some (.code (mt 113).1 (mt 113).2.1 (mt 113).2.2.1 (mt 113).2.2.2) := rfl
set_option maxRecDepth 100000 in
theorem mcd_114 : tg 7086 = some (.code (mt 114).1 (mt 114).2.1 (mt 114).2.2.1 (mt 114).2.2.2) := rfl
set_option maxRecDepth 100000 in
theorem mcd_115 : tg 7167 = some (.code (mt 115).1 (mt 115).2.1 (mt 115).2.2.1 (mt 115).2.2.2) := rfl
set_option maxRecDepth 100000 in
theorem mcd_116 : tg 7171 = some (.code (mt 116).1 (mt 116).2.1 (mt 116).2.2.1 (mt 116).2.2.2) := rfl
set_option maxRecDepth 100000 in
theorem mcd_117 : tg 7175 = some (.code (mt 117).1 (mt 117).2.1 (mt 117).2.2.1 (mt 117).2.2.2) := rfl
set_option maxRecDepth 100000 in
theorem mcd_118 : tg 7179 = some (.code (mt 118).1 (mt 118).2.1 (mt 118).2.2.1 (mt 118).2.2.2) := rfl
set_option maxRecDepth 100000 in
theorem mcd_119 : tg 7183 = some (.code (mt 119).1 (mt 119).2.1 (mt 119).2.2.1 (mt 119).2.2.2) := rfl
set_option maxRecDepth 100000 in
theorem mcd_120 : tg 7187 = some (.code (mt 120).1 (mt 120).2.1 (mt 120).2.2.1 (mt 120).2.2.2) := rfl
set_option maxRecDepth 100000 in
theorem mcd_121 : tg 3064 = some (.code (mt 121).1 (mt 121).2.1 (mt 121).2.2.1 (mt 121).2.2.2) := rfl
set_option maxRecDepth 100000 in
theorem mcd_122 : tg 3073 = some (.code (mt 122).1 (mt 122).2.1 (mt 122).2.2.1 (mt 122).2.2.2) := rfl
set_option maxRecDepth 100000 in
theorem mcd_123 : tg 2102 = some (.code (mt 123).1 (mt 123).2.1 (mt 123).2.2.1 (mt 123).2.2.2) := rfl
set_option maxRecDepth 100000 in
theorem mcd_124 : tg 2172 = some (.code (mt 124).1 (mt 124).2.1 (mt 124).2.2.1 (mt 124).2.2.2) := rfl
set_option maxRecDepth 100000 in
theorem mcd_125 : tg 3048 = some (.code (mt 125).1 (mt 125).2.1 (mt 125).2.2.1 (mt 125).2.2.2) := rfl
set_option maxRecDepth 100000 in
theorem mcd_126 : tg 2176 = some (.code (mt 126).1 (mt 126).2.1 (mt 126).2.2.1 (mt 126).2.2.2) := rfl
set_option maxRecDepth 100000 in
theorem mcd_127 : tg 2111 = some (.code (mt 127).1 (mt 127).2.1 (mt 127).2.2.1 (mt 127).2.2.2) := rfl
set_option maxRecDepth 100000 in
theorem mcd_128 : tg 3056 = some (.code (mt 128).1 (mt 128).2.1 (mt 128).2.2.1 (mt 128).2.2.2) := rfl
set_option maxRecDepth 100000 in
theorem mcd_129 : tg 2180 = some (.code (mt 129).1 (mt 129).2.1 (mt 129).2.2.1 (mt 129).2.2.2) := rfl
set_option maxRecDepth 100000 in
theorem mcd_130 : tg 3042 = some (.code (mt 130).1 (mt 130).2.1 (mt 130).2.2.1 (mt 130).2.2.2) := rfl
set_option maxRecDepth 100000 in
theorem mcd_131 : tg 3021 = some (.code (mt 131).1 (mt 131).2.1 (mt 131).2.2.1 (mt 131).2.2.2) := rfl
set_option maxRecDepth 100000 in
theorem mcd_132 : tg 2219 = some (.code (mt 132).1 (mt 132).2.1 (mt 132).2.2.1 (mt 132).2.2.2) := rfl
set_option maxRecDepth 100000 in
theorem mcd_133 : tg 2236 = some (.code (mt 133).1 (mt 133).2.1 (mt 133).2.2.1 (mt 133).2.2.2) := rfl
set_option maxRecDepth 100000 in
theorem mcd_134 : tg 3008 = some (.code (mt 134).1 (mt 134).2.1 (mt 134).2.2.1 (mt 134).2.2.2) := rfl
set_option maxRecDepth 100000 in
theorem mcd_135 : tg 3013 = some (.code (mt 135).1 (mt 135).2.1 (mt 135).2.2.1 (mt 135).2.2.2) := rfl
set_option maxRecDepth 100000 in
theorem mcd_136 : tg 3017 = some (.code (mt 136).1 (mt 136).2.1 (mt 136).2.2.1 (mt 136).2.2.2) := rfl
set_option maxRecDepth 100000 in
theorem mcd_137 : tg 2184 = some (.code (mt 137).1 (mt 137).2.1 (mt 137).2.2.1 (mt 137).2.2.2) := rfl
set_option maxRecDepth 100000 in
theorem mcd_138 : tg 2188 = some (.code (mt 138).1 (mt 138).2.1 (mt 138).2.2.1 (mt 138).2.2.2) := rfl
set_option maxRecDepth 100000 in
theorem mcd_139 : tg 2202 = some (.code (mt 139).1 (mt 139).2.1 (mt 139).2.2.1 (mt 139).2.2.2) := rfl
set_option maxRecDepth 100000 in
theorem mcd_140 : tg 2215 = some (.code (mt 140).1 (mt 140).2.1 (mt 140).2.2.1 (mt 140).2.2.2) := rfl
set_option maxRecDepth 100000 in
theorem mcd_141 : tg 2194 = some (.code (mt 141).1 (mt 141).2.1 (mt 141).2.2.1 (mt 141).2.2.2) := rfl
set_option maxRecDepth 100000 in
theorem mcd_142 : tg 3236 = some (.code (mt 142).1 (mt 142).2.1 (mt 142).2.2.1 (mt 142).2.2.2) := rfl
set_option maxRecDepth 100000 in
theorem mcd_143 : tg 4003 = some (.code (mt 143).1 (mt 143).2.1 (mt 143).2.2.1 (mt 143).2.2.2) := rfl
set_option maxRecDepth 100000 in
theorem mcd_144 : tg 4007 = some (.code (mt 144).1 (mt 144).2.1 (mt 144).2.2.1 (mt 144).2.2.2) := rfl
set_option maxRecDepth 100000 in
theorem mcd_145 : tg 4067 = some (.code (mt 145).1 (mt 145).2.1 (mt 145).2.2.1 (mt 145).2.2.2) := rfl
set_option maxRecDepth 100000 in
theorem mcd_146 : tg 4047 = some (.code (mt 146).1 (mt 146).2.1 (mt 146).2.2.1 (mt 146).2.2.2) := rfl
set_option maxRecDepth 100000 in
theorem mcd_147 : tg 4082 = some (.code (mt 147).1 (mt 147).2.1 (mt 147).2.2.1 (mt 147).2.2.2) := rfl
set_option maxRecDepth 100000 in
theorem mcd_148 : tg 4092 = some (.code (mt 148).1 (mt 148).2.1 (mt 148).2.2.1 (mt 148).2.2.2) := rfl
set_option maxRecDepth 100000 in
theorem mcd_149 : tg 4110 = some (.code (mt 149).1 (mt 149).2.1 (mt 149).2.2.1 (mt 149).2.2.2) := rfl
set_option maxRecDepth 100000 in
theorem mcd_150 : tg 4120 = some (.code (mt 150).1 (mt 150).2.1 (mt 150).2.2.1 (mt 150).2.2.2) := rfl
set_option maxRecDepth 100000 in
theorem mcd_151 : tg 4012 = some (.code (mt 151).1 (mt 151).2.1 (mt 151).2.2.1 (mt 151).2.2.2) := rfl
set_option maxRecDepth 100000 in
theorem mcd_152 : tg 4020 = some (.code (mt 152).1 (mt 152).2.1 (mt 152).2.2.1 (mt 152).2.2.2) := rfl
set_option maxRecDepth 100000 in
theorem mcd_153 : tg 4016 = some (.code (mt 153).1 (mt 153).2.1 (mt 153).2.2.1 (mt 153).2.2.2) := rfl
set_option maxRecDepth 100000 in
theorem mcd_154 : tg 4028 = some (.code (mt 154).1 (mt 154).2.1 (mt 154).2.2.1 (mt 154).2.2.2) := rfl
set_option maxRecDepth 100000 in
theorem mcd_155 : tg 4033 = some (.code (mt 155).1 (mt 155).2.1 (mt 155).2.2.1 (mt 155).2.2.2) := rfl
set_option maxRecDepth 100000 in
theorem mcd_156 : tg 4042 = some (.code (mt 156).1 (mt 156).2.1 (mt 156).2.2.1 (mt 156).2.2.2) := rfl
set_option maxRecDepth 100000 in
theorem mcd_157 : tg 4153 = some (.code (mt 157).1 (mt 157).2.1 (mt 157).2.2.1 (mt 157).2.2.2) := rfl
set_option maxRecDepth 100000 in
theorem mcd_158 : tg 4157 = some (.code (mt 158).1 (mt 158).2.1 (mt 158).2.2.1 (mt 158).2.2.2) := rfl
set_option maxRecDepth 100000 in
theorem mcd_159 : tg 4168 = some (.code (mt 159).1 (mt 159).2.1 (mt 159).2.2.1 (mt 159).2.2.2) := rfl
set_option maxRecDepth 100000 in
theorem mcd_160 : tg 4175 = some (.code (mt 160).1 (mt 160).2.1 (mt 160).2.2.1 (mt 160).2.2.2) := rfl
set_option maxRecDepth 100000 in
theorem mcd_161 : tg 4161 = some (.code (mt 161).1 (mt 161).2.1 (mt 161).2.2.1 (mt 161).2.2.2) := rfl
set_option maxRecDepth 100000 in
theorem mcd_162 : tg 4171 = some (.code (mt 162).1 (mt 162).2.1 (mt 162).2.2.1 (mt 162).2.2.2) := rfl
set_option maxRecDepth 100000 in
theorem mcd_163 : tg 4164 = some (.code (mt 163).1 (mt 163).2.1 (mt 163).2.2.1 (mt 163).2.2.2) := rfl
set_option maxRecDepth 100000 in
theorem mcd_164 : tg 4051 = some (.code (mt 164).1 (mt 164).2.1 (mt 164).2.2.1 (mt 164).2.2.2) := rfl
set_option maxRecDepth 100000 in
theorem mcd_165 : tg 4181 = some (.code (mt 165).1 (mt 165).2.1 (mt 165).2.2.1 (mt 165).2.2.2) := rfl
set_option maxRecDepth 100000 in
theorem mcd_166 : tg 4185 = some (.code (mt 166).1 (mt 166).2.1 (mt 166).2.2.1 (mt 166).2.2.2) := rfl
set_option maxRecDepth 100000 in
theorem mcd_167 : tg 4190 = some (.code (mt 167).1 (mt 167).2.1 (mt 167).2.2.1 (mt 167).2.2.2) := rfl
set_option maxRecDepth 100000 in
theorem mcd_168 : tg 2025 = some (.code (mt 168).1 (mt 168).2.1 (mt 168).2.2.1 (mt 168).2.2.2) := rfl
set_option maxRecDepth 100000 in
theorem mcd_169 : tg 2046 = some (.code (mt 169).1 (mt 169).2.1 (mt 169).2.2.1 (mt 169).2.2.2) := rfl
set_option maxRecDepth 100000 in
theorem mcd_170 : tg 2198 = some (.code (mt 170).1 (mt 170).2.1 (mt 170).2.2.1 (mt 170).2.2.2) := rfl
set_option maxRecDepth 100000 in
theorem mcd_171 : tg 1051 = some (.code (mt 171).1 (mt 171).2.1 (mt 171).2.2.1 (mt 171).2.2.2) := rfl
set_option maxRecDepth 100000 in
theorem mcd_172 : tg 3052 = some (.code (mt 172).1 (mt 172).2.1 (mt 172).2.2.1 (mt 172).2.2.2) := rfl
set_option maxRecDepth 100000 in
theorem mcd_173 : tg 2120 = some (.code (mt 173).1 (mt 173).2.1 (mt 173).2.2.1 (mt 173).2.2.2) := rfl
set_option maxRecDepth 100000 in
theorem mcd_174 : tg 2209 = some (.code (mt 174).1 (mt 174).2.1 (mt 174).2.2.1 (mt 174).2.2.2) := rfl
set_option maxRecDepth 100000 in
theorem mcd_175 : tg 2038 = some (.code (mt 175).1 (mt 175).2.1 (mt 175).2.2.1 (mt 175).2.2.2) := rfl
set_option maxRecDepth 100000 in
theorem mcd_176 : tg 3060 = some (.code (mt 176).1 (mt 176).2.1 (mt 176).2.2.1 (mt 176).2.2.2) := rfl
set_option maxRecDepth 100000 in
theorem mcd_177 : tg 2051 = some (.code (mt 177).1 (mt 177).2.1 (mt 177).2.2.1 (mt 177).2.2.2) := rfl
set_option maxRecDepth 100000 in
theorem mcd_178 : tg 2042 = some (.code (mt 178).1 (mt 178).2.1 (mt 178).2.2.1 (mt 178).2.2.2) := rfl
set_option maxRecDepth 100000 in
theorem mcd_179 : tg 4071 = some (.code (mt 179).1 (mt 179).2.1 (mt 179).2.2.1 (mt 179).2.2.2) := rfl
set_option maxRecDepth 100000 in
theorem mcd_180 : tg 4087 = some (.code (mt 180).1 (mt 180).2.1 (mt 180).2.2.1 (mt 180).2.2.2) := rfl
set_option maxRecDepth 100000 in
theorem mcd_181 : tg 3184 = some (.code (mt 181).1 (mt 181).2.1 (mt 181).2.2.1 (mt 181).2.2.2) := rfl
set_option maxRecDepth 100000 in
theorem mcd_182 : tg 4133 = some (.code (mt 182).1 (mt 182).2.1 (mt 182).2.2.1 (mt 182).2.2.2) := rfl
set_option maxRecDepth 100000 in
theorem mcd_183 : tg 4129 = some (.code (mt 183).1 (mt 183).2.1 (mt 183).2.2.1 (mt 183).2.2.2) := rfl
set_option maxRecDepth 100000 in
theorem mcd_184 : tg 4138 = some (.code (mt 184).1 (mt 184).2.1 (mt 184).2.2.1 (mt 184).2.2.2) := rfl
set_option maxRecDepth 100000 in
theorem mcd_185 : tg 4143 = some (.code (mt 185).1 (mt 185).2.1 (mt 185).2.2.1 (mt 185).2.2.2) := rfl
set_option maxRecDepth 100000 in
theorem mcd_186 : tg 4146 = some (.code (mt 186).1 (mt 186).2.1 (mt 186).2.2.1 (mt 186).2.2.2) := rfl
set_option maxRecDepth 100000 in
theorem mcd_187 : tg 4059 = some (.code (mt 187).1 (mt 187).2.1 (mt 187).2.2.1 (mt 187).2.2.2) := rfl
set_option maxRecDepth 100000 in
theorem mcd_188 : tg 4055 = some (.code (mt 188).1 (mt 188).2.1 (mt 188).2.2.1 (mt 188).2.2.2) := rfl
set_option maxRecDepth 100000 in
theorem mcd_189 : tg 4075 = some (.code (mt 189).1 (mt 189).2.1 (mt 189).2.2.1 (mt 189).2.2.2) := rfl
set_option maxRecDepth 100000 in
theorem mcd_190 : tg 4125 = some (.code (mt 190).1 (mt 190).2.1 (mt 190).2.2.1 (mt 190).2.2.2) := rfl
set_option maxRecDepth 100000 in
theorem mcd_191 : tg 4096 = some (.code (mt 191).1 (mt 191).2.1 (mt 191).2.2.1 (mt 191).2.2.2) := rfl
set_option maxRecDepth 100000 in
theorem mcd_192 : tg 4100 = some (.code (mt 192).1 (mt 192).2.1 (mt 192).2.2.1 (mt 192).2.2.2) := rfl
set_option maxRecDepth 100000 in
theorem mcd_193 : tg 4104 = some (.code (mt 193).1 (mt 193).2.1 (mt 193).2.2.1 (mt 193).2.2.2) := rfl
set_option maxRecDepth 100000 in
theorem mcd_194 : tg 3209 = some (.code (mt 194).1 (mt 194).2.1 (mt 194).2.2.1 (mt 194).2.2.2) := rfl
set_option maxRecDepth 100000 in
theorem mcd_195 : tg 2068 = some (.code (mt 195).1 (mt 195).2.1 (mt 195).2.2.1 (mt 195).2.2.2) := rfl
set_option maxRecDepth 100000 in
theorem mcd_196 : tg 4201 = some (.code (mt 196).1 (mt 196).2.1 (mt 196).2.2.1 (mt 196).2.2.2) := rfl
set_option maxRecDepth 100000 in
theorem mcd_197 : tg 3001 = some (.code (mt 197).1 (mt 197).2.1 (mt 197).2.2.1 (mt 197).2.2.2) := rfl
set_option maxRecDepth 100000 in
theorem mcd_198 : tg 2076 = some (.code (mt 198).1 (mt 198).2.1 (mt 198).2.2.1 (mt 198).2.2.2) := rfl
set_option maxRecDepth 100000 in
theorem mcd_199 : tg 3160 = some (.code (mt 199).1 (mt 199).2.1 (mt 199).2.2.1 (mt 199).2.2.2) := rfl
set_option maxRecDepth 100000 in
theorem mcd_200 : tg 3221 = some (.code (mt 200).1 (mt 200).2.1 (mt 200).2.2.1 (mt 200).2.2.2) := rfl
set_option maxRecDepth 100000 in
theorem mcd_201 : tg 3225 = some (.code (mt 201).1 (mt 201).2.1 (mt 201).2.2.1 (mt 201).2.2.2) := rfl
set_option maxRecDepth 100000 in
theorem mcd_202 : tg 4194 = some (.code (mt 202).1 (mt 202).2.1 (mt 202).2.2.1 (mt 202).2.2.2) := rfl
set_option maxRecDepth 100000 in
theorem mcd_203 : tg 2124 = some (.code (mt 203).1 (mt 203).2.1 (mt 203).2.2.1 (mt 203).2.2.2) := rfl
set_option maxRecDepth 100000 in
theorem mcd_204 : tg 2134 = some (.code (mt 204).1 (mt 204).2.1 (mt 204).2.2.1 (mt 204).2.2.2) := rfl
theorem mcd : ∀ k : Nat, k < 205 → ∃ p, tg p = some (.code (mt k).1 (mt k).2.1 (mt k).2.2.1 (mt k).2.2.2)
  | 0, _ => ⟨_, mcd_0⟩
  | 1, _ => ⟨_, mcd_1⟩
  | 2, _ => ⟨_, mcd_2⟩
  | 3, _ => ⟨_, mcd_3⟩
  | 4, _ => ⟨_, mcd_4⟩
  | 5, _ => ⟨_, mcd_5⟩
  | 6, _ => ⟨_, mcd_6⟩
  | 7, _ => ⟨_, mcd_7⟩
  | 8, _ => ⟨_, mcd_8⟩
  | 9, _ => ⟨_, mcd_9⟩
  | 10, _ => ⟨_, mcd_10⟩
  | 11, _ => ⟨_, mcd_11⟩
  | 12, _ => ⟨_, mcd_12⟩
  | 13, _ => ⟨_, mcd_13⟩
  | 14, _ => ⟨_, mcd_14⟩
  | 15, _ => ⟨_, mcd_15⟩
  | 16, _ => ⟨_, mcd_16⟩
  | 17, _ => ⟨_, mcd_17⟩
  | 18, _ => ⟨_, mcd_18⟩
  | 19, _ => ⟨_, mcd_19⟩
  | 20, _ => ⟨_, mcd_20⟩
  | 21, _ => ⟨_, mcd_21⟩
  | 22, _ => ⟨_, mcd_22⟩
  | 23, _ => ⟨_, mcd_23⟩
  | 24, _ => ⟨_, mcd_24⟩
  | 25, _ => ⟨_, mcd_25⟩
  | 26, _ => ⟨_, mcd_26⟩
  | 27, _ => ⟨_, mcd_27⟩
  | 28, _ => ⟨_, mcd_28⟩
  | 29, _ => ⟨_, mcd_29⟩
  | 30, _ => ⟨_, mcd_30⟩
  | 31, _ => ⟨_, mcd_31⟩
  | 32, _ => ⟨_, mcd_32⟩
  | 33, _ => ⟨_, mcd_33⟩
  | 34, _ => ⟨_, mcd_34⟩
  | 35, _ => ⟨_, mcd_35⟩
  | 36, _ => ⟨_, mcd_36⟩
  | 37, _ => ⟨_, mcd_37⟩
  | 38, _ => ⟨_, mcd_38⟩
  | 39, _ => ⟨_, mcd_39⟩
  | 40, _ => ⟨_, mcd_40⟩
  | 41, _ => ⟨_, mcd_41⟩
  | 42, _ => ⟨_, mcd_42⟩
  | 43, _ => ⟨_, mcd_43⟩
  | 44, _ => ⟨_, mcd_44⟩
  | 45, _ => ⟨_, mcd_45⟩
  | 46, _ => ⟨_, mcd_46⟩
  | 47, _ => ⟨_, mcd_47⟩
  | 48, _ => ⟨_, mcd_48⟩
  | 49, _ => ⟨_, mcd_49⟩
  | 50, _ => ⟨_, mcd_50⟩
  | 51, _ => ⟨_, mcd_51⟩
  | 52, _ => ⟨_, mcd_52⟩
  | 53, _ => ⟨_, mcd_53⟩
  | 54, _ => ⟨_, mcd_54⟩
  | 55, _ => ⟨_, mcd_55⟩
  | 56, _ => ⟨_, mcd_56⟩
  | 57, _ => ⟨_, mcd_57⟩
  | 58, _ => ⟨_, mcd_58⟩
  | 59, _ => ⟨_, mcd_59⟩
  | 60, _ => ⟨_, mcd_60⟩
  | 61, _ => ⟨_, mcd_61⟩
  | 62, _ => ⟨_, mcd_62⟩
  | 63, _ => ⟨_, mcd_63⟩
  | 64, _ => ⟨_, mcd_64⟩
  | 65, _ => ⟨_, mcd_65⟩
  | 66, _ => ⟨_, mcd_66⟩
  | 67, _ => ⟨_, mcd_67⟩
  | 68, _ => ⟨_, mcd_68⟩
  | 69, _ => ⟨_, mcd_69⟩
  | 70, _ => ⟨_, mcd_70⟩
  | 71, _ => ⟨_, mcd_71⟩
  | 72, _ => ⟨_, mcd_72⟩
  | 73, _ => ⟨_, mcd_73⟩
  | 74, _ => ⟨_, mcd_74⟩
  | 75, _ => ⟨_, mcd_75⟩
  | 76, _ => ⟨_, mcd_76⟩
  | 77, _ => ⟨_, mcd_77⟩
  | 78, _ => ⟨_, mcd_78⟩
  | 79, _ => ⟨_, mcd_79⟩
  | 80, _ => ⟨_, mcd_80⟩
  | 81, _ => ⟨_, mcd_81⟩
  | 82, _ => ⟨_, mcd_82⟩
  | 83, _ => ⟨_, mcd_83⟩
  | 84, _ => ⟨_, mcd_84⟩
  | 85, _ => ⟨_, mcd_85⟩
  | 86, _ => ⟨_, mcd_86⟩
  | 87, _ => ⟨_, mcd_87⟩
  | 88, _ => ⟨_, mcd_88⟩
  | 89, _ => ⟨_, mcd_89⟩
  | 90, _ => ⟨_, mcd_90⟩
  | 91, _ => ⟨_, mcd_91⟩
  | 92, _ => ⟨_, mcd_92⟩
  | 93, _ => ⟨_, mcd_93⟩
  | 94, _ => ⟨_, mcd_94⟩
  | 95, _ => ⟨_, mcd_95⟩
  | 96, _ => ⟨_, mcd_96⟩
  | 97, _ => ⟨_, mcd_97⟩
  | 98, _ => ⟨_, mcd_98⟩
  | 99, _ => ⟨_, mcd_99⟩
  | 100, _ => ⟨_, mcd_100⟩
  | 101, _ => ⟨_, mcd_101⟩
  | 102, _ => ⟨_, mcd_102⟩
  | 103, _ => ⟨_, mcd_103⟩
  | 104, _ => ⟨_, mcd_104⟩
  | 105, _ => ⟨_, mcd_105⟩
  | 106, _ => ⟨_, mcd_106⟩
  | 107, _ => ⟨_, mcd_107⟩
  | 108, _ => ⟨_, mcd_108⟩
  | 109, _ => ⟨_, mcd_109⟩
  | 110, _ => ⟨_, mcd_110⟩
  | 111, _ => ⟨_, mcd_111⟩
  | 112, _ => ⟨_, mcd_112⟩
  | 113, _ => ⟨_, mcd_113⟩
  | 114, _ => ⟨_, mcd_114⟩
  | 115, _ => ⟨_, mcd_115⟩
  | 116, _ => ⟨_, mcd_116⟩
  | 117, _ => ⟨_, mcd_117⟩
  | 118, _ => ⟨_, mcd_118⟩
  | 119, _ => ⟨_, mcd_119⟩
  | 120, _ => ⟨_, mcd_120⟩
  | 121, _ => ⟨_, mcd_121⟩
  | 122, _ => ⟨_, mcd_122⟩
  | 123, _ => ⟨_, mcd_123⟩
  | 124, _ => ⟨_, mcd_124⟩
  | 125, _ => ⟨_, mcd_125⟩
  | 126, _ => ⟨_, mcd_126⟩
  | 127, _ => ⟨_, mcd_127⟩
  | 128, _ => ⟨_, mcd_128⟩
  | 129, _ => ⟨_, mcd_129⟩
  | 130, _ => ⟨_, mcd_130⟩
  | 131, _ => ⟨_, mcd_131⟩
  | 132, _ => ⟨_, mcd_132⟩
  | 133, _ => ⟨_, mcd_133⟩
  | 134, _ => ⟨_, mcd_134⟩
  | 135, _ => ⟨_, mcd_135⟩
  | 136, _ => ⟨_, mcd_136⟩
  | 137, _ => ⟨_, mcd_137⟩
  | 138, _ => ⟨_, mcd_138⟩
  | 139, _ => ⟨_, mcd_139⟩
  | 140, _ => ⟨_, mcd_140⟩
  | 141, _ => ⟨_, mcd_141⟩
  | 142, _ => ⟨_, mcd_142⟩
  | 143, _ => ⟨_, mcd_143⟩
  | 144, _ => ⟨_, mcd_144⟩
  | 145, _ => ⟨_, mcd_145⟩
  | 146, _ => ⟨_, mcd_146⟩
  | 147, _ => ⟨_, mcd_147⟩
  | 148, _ => ⟨_, mcd_148⟩
  | 149, _ => ⟨_, mcd_149⟩
  | 150, _ => ⟨_, mcd_150⟩
  | 151, _ => ⟨_, mcd_151⟩
  | 152, _ => ⟨_, mcd_152⟩
  | 153, _ => ⟨_, mcd_153⟩
  | 154, _ => ⟨_, mcd_154⟩
  | 155, _ => ⟨_, mcd_155⟩
  | 156, _ => ⟨_, mcd_156⟩
  | 157, _ => ⟨_, mcd_157⟩
  | 158, _ => ⟨_, mcd_158⟩
  | 159, _ => ⟨_, mcd_159⟩
  | 160, _ => ⟨_, mcd_160⟩
  | 161, _ => ⟨_, mcd_161⟩
  | 162, _ => ⟨_, mcd_162⟩
  | 163, _ => ⟨_, mcd_163⟩
  | 164, _ => ⟨_, mcd_164⟩
  | 165, _ => ⟨_, mcd_165⟩
  | 166, _ => ⟨_, mcd_166⟩
  | 167, _ => ⟨_, mcd_167⟩
  | 168, _ => ⟨_, mcd_168⟩
  | 169, _ => ⟨_, mcd_169⟩
  | 170, _ => ⟨_, mcd_170⟩
  | 171, _ => ⟨_, mcd_171⟩
  | 172, _ => ⟨_, mcd_172⟩
  | 173, _ => ⟨_, mcd_173⟩
  | 174, _ => ⟨_, mcd_174⟩
  | 175, _ => ⟨_, mcd_175⟩
  | 176, _ => ⟨_, mcd_176⟩
  | 177, _ => ⟨_, mcd_177⟩
  | 178, _ => ⟨_, mcd_178⟩
  | 179, _ => ⟨_, mcd_179⟩
  | 180, _ => ⟨_, mcd_180⟩
  | 181, _ => ⟨_, mcd_181⟩
  | 182, _ => ⟨_, mcd_182⟩
  | 183, _ => ⟨_, mcd_183⟩
  | 184, _ => ⟨_, mcd_184⟩
  | 185, _ => ⟨_, mcd_185⟩
  | 186, _ => ⟨_, mcd_186⟩
  | 187, _ => ⟨_, mcd_187⟩
  | 188, _ => ⟨_, mcd_188⟩
  | 189, _ => ⟨_, mcd_189⟩
  | 190, _ => ⟨_, mcd_190⟩
  | 191, _ => ⟨_, mcd_191⟩
  | 192, _ => ⟨_, mcd_192⟩
  | 193, _ => ⟨_, mcd_193⟩
  | 194, _ => ⟨_, mcd_194⟩
  | 195, _ => ⟨_, mcd_195⟩
  | 196, _ => ⟨_, mcd_196⟩
  | 197, _ => ⟨_, mcd_197⟩
  | 198, _ => ⟨_, mcd_198⟩
  | 199, _ => ⟨_, mcd_199⟩
  | 200, _ => ⟨_, mcd_200⟩
  | 201, _ => ⟨_, mcd_201⟩
  | 202, _ => ⟨_, mcd_202⟩
  | 203, _ => ⟨_, mcd_203⟩
  | 204, _ => ⟨_, mcd_204⟩
  | k + 205, h => absurd h (by omega)
end
section
/-! what the small machine means -/
theorem mt_get {k : Nat} (hk : k < nM) : mtab[k]? = some (mt k) := by
  have hl : k < mtab.length := by rw [mtab_len]; exact hk
  rw [mt, List.getD_eq_getElem?_getD, List.getElem?_eq_getElem hl]
  rfl
def mpl (k : Nat) : Nat × Bool × Nat × Nat × Nat := mplc.getD k (0, false, 0, 0, 0)
theorem mchk_at {k : Nat} (hk : k < nM) : mchk (mt k) (mpl k) = true := by
  have hl : k < mplc.length := by rw [mplc_len]; exact hk
  have e : mplc[k]? = some (mpl k) := by
    rw [mpl, List.getD_eq_getElem?_getD, List.getElem?_eq_getElem hl]
    rfl
  have h := List.all_eq_true.mp mchk_all (mt k, mpl k) ?_
  · exact h
  · refine List.mem_of_getElem? (i := k) ?_
    rw [List.getElem?_zip_eq_some]
    exact ⟨mt_get hk, e⟩
theorem mt_facts {k : Nat} (hk : k < nM) : (Cond.code (mt k).1 (mt k).2.1 (mt k).2.2.1 (mt k).2.2.2 ∈ tb) ∧ (if (mpl k).2.1 then Cond.static (mt k).1 ∈ tb else (Cond.instanceMethod (mt k).1 ∈ tb ∧ Cond.selects (mt k).1.cls (mt k).1 (mt k).1 ∈ tb)) ∧ Cond.initialized (mt k).1.cls ∈ tb ∧ (mt k).1.cls ≠ "java/lang/invoke/MethodHandle" ∧ (mt k).1.cls ≠ "java/lang/invoke/VarHandle" ∧ (mt k).2.2.1 ≤ 15 ∧ plainName (mt k).1.cls = true := by
  have h := mchk_at hk
  obtain ⟨p, hp⟩ := mcd k hk
  simp only [mchk, Bool.and_eq_true, decide_eq_true_eq, Bool.or_eq_true] at h
  obtain ⟨⟨⟨⟨⟨⟨⟨⟨⟨h1, h2⟩, h3⟩, g1⟩, g2⟩, g3⟩, c1⟩, c2⟩, hl⟩, hn⟩ := h
  refine ⟨tb_in hp rfl, ?_, tb_in h3 g3, c1, c2, hl, hn⟩
  cases hq : (mpl k).2.1 with
  | true =>
    rw [hq] at h1 g1
    exact tb_in h1 g1
  | false =>
    rw [hq] at h1 h2 g1 g2
    exact ⟨tb_in h1 g1, tb_in (h2.resolve_left (by simp)) g2⟩
abbrev vwD : vw_C := ("", fun _ => ("", "", "", false), 0)
def clA (ci : Nat) : vw_C := vwCl.getD ci vwD
def isRf (ci j : Nat) : Bool := match parseFieldDescriptor ((clA ci).2.1 j).2.2.1 with
  | some (.object _) => true
  | some (.array _) => true
  | _ => false
def cv (ad : Nat → Nat) : AV → Value
  | .inl z => .int (Int32.ofInt z)
  | .inr (.inl z) => .long (Int64.ofInt z)
  | .inr (.inr k) => .ref (ad k)
def fvl (wd : WD) (ad : Nat → Nat) (h : AH) (k ci : Nat) : List Value := (List.range (clA ci).2.2).map fun j => bif isRf ci j then .ref (ad (rfk wd k j)) else .int (Int32.ofInt (h.1 k j))
def cel (wd : WD) (aT : Nat → ClassId) (ad : Nat → Nat) (h : AH) (k : Nat) : va_E :=
  if (wd.2.1 k).1 = 0 then .inr ((wd.2.1 k).2.1, fvl wd ad h k (wd.2.1 k).2.1)
  else .inl (aT (wd.2.1 k).2.1, (wd.2.1 k).2.2, if (wd.2.1 k).2.1 = 1 then .inr (.inl fun i => Int64.ofInt (h.2 k i)) else .inl fun i => Int32.ofInt (h.2 k i))
def wsO (wd : WD) (aT : Nat → ClassId) (ad : Nat → Nat) (h : AH) : va_W := (List.range wd.1).map fun k => (ad k, cel wd aT ad h k)
def tyA (aT : Nat → ClassId) : List (ClassId × FieldType) := [(aT 0, .int), (aT 1, .long), (aT 2, .boolean), (aT 3, .char)]
def okV : AV → Prop
  | .inl z => inR z
  | .inr (.inl z) => inJ z
  | .inr (.inr _) => True
def okL (L : AL) : Prop := ∀ (i : Nat) (v : AV), lgt L i = some v → okV v
def okS (st : List AV) : Prop := ∀ v ∈ st, okV v
def okH (wd : WD) (h : AH) : Prop := (∀ k j : Nat, inR (h.1 k j)) ∧ ∀ k i : Nat, ((wd.2.1 k).2.1 = 1 → inJ (h.2 k i)) ∧ ((wd.2.1 k).2.1 ≠ 1 → inR (h.2 k i))
def lvP (ad : Nat → Nat) (ls : Array Slot) (nL : Nat) (L : AL) : Prop := ls.size = nL ∧ lv_wf ls ∧ L.length = nL ∧ ∀ (i : Nat) (v : AV), lgt L i = some v → ls[i]? = some (.val (cv ad v))
def stD : String × Nat × String := ("", 0, "")
def isNs : Cond → Bool
  | .fieldLinkNest .. => true
  | .methodLinkNest .. => true
  | _ => false
def nst : List Cond := lw_tbl.filter isNs
theorem nst_in {p : Nat} {w : Cond} (h : tg p = some w) (g : isNs w = true) : w ∈ nst := List.mem_filter.mpr ⟨tbN_in _ _ (List.mem_of_getElem? h), g⟩
theorem nst_warm {w : Cond} {s U : State} (hw : w ∈ nst) (hW : s.WarmedH U.vm) (h : va_Nw w s) : va_Nw w U := by
  have hq := (List.mem_filter.mp hw).2
  cases w with
  | fieldLinkNest a b c d e f => exact va_Nw.warmF hW h
  | methodLinkNest a b c d => exact va_Nw.warmM hW h
  | _ => cases hq
theorem nst_same {w : Cond} {s U : State} (hw : w ∈ nst) (hv : s.vm = U.vm) (h : va_Nw w s) : va_Nw w U := by
  have hq := (List.mem_filter.mp hw).2
  cases w with
  | fieldLinkNest a b c d e f => exact va_Nw.same rfl hv h
  | methodLinkNest a b c d => exact va_Nw.same rfl hv h
  | _ => cases hq
/-- what is there from the start and is never written: the texts, the functions, their list -/
def Sta (ad : Nat → Nat) (A : Nat → Prop) (U : State) : Prop :=
  (∀ i : Nat, i < 175 → ∃ av : Nat, vk_R (strs.getD i stD).1 (strs.getD i stD).2.1 (strs.getD i stD).2.2 (ad (1000 + i)) U ∧ va_O "java/lang/String" (ad (1000 + i)) A U U.heap ∧ va_OF "java/lang/String" "coder" "B" (.int 0) (ad (1000 + i)) A U U.heap ∧ va_OF "java/lang/String" "value" "[B" (.ref av) (ad (1000 + i)) A U U.heap ∧ va_T .byte av (strC.getD i []).length (fun j => .int (Int32.ofInt ((strC.getD i []).getD j 0))) A U U.heap)
  ∧ (∀ f : Nat, f < 133 → va_O "FormulaCode$Function" (ad (2000 + f)) A U U.heap ∧ va_OF "FormulaCode$Function" "great" "Ljava/lang/String;" (.ref (ad (1000 + efS f))) (ad (2000 + f)) A U U.heap ∧ va_OF "FormulaCode$Function" "least" "I" (.int (Int32.ofInt (efI 0 f))) (ad (2000 + f)) A U U.heap ∧ va_OF "FormulaCode$Function" "greatest" "I" (.int (Int32.ofInt (efI 1 f))) (ad (2000 + f)) A U U.heap)
  ∧ va_Z "FormulaCode" "FUNCTIONS" "[LFormulaCode$Function;" (.ref (ad 3000)) A U U.heap
  ∧ va_T (.object "FormulaCode$Function") (ad 3000) 133 (fun j => .ref (ad (2000 + j))) A U U.heap
  ∧ va_Z "java/lang/String" "COMPACT_STRINGS" "Z" (.int 1) A U U.heap
  ∧ ∀ w ∈ nst, va_Nw w U
theorem Sta.to {ad : Nat → Nat} {A B : Nat → Prop} {s U : State} {H : Heap} {locs : List Loc} (hW : s.WarmedH U.vm) (hU : U.heap = H) (hS : va_S A s.heap H locs) (hAB : ∀ q, B q → A q) (h : Sta ad A s) : Sta ad B U := by
  have hv := hW.alike
  have hq : ∀ a : Nat, a < s.heap.size → ¬ A a → U.heap[a]? = s.heap[a]? := fun a h1 h2 => by rw [hU]; exact hS.2.1 a h1 h2
  obtain ⟨h1, h2, h3, h4, h5, h6⟩ := h
  refine ⟨fun i hi => ?_, fun f hf => ?_, ((va_Z.moved hv h3).kept hq).narrow hAB, ((va_T.moved hv h4).kept hq).narrow hAB, ((va_Z.moved hv h5).kept hq).narrow hAB, fun w hw => nst_warm hw hW (h6 w hw)⟩
  · obtain ⟨av, a1, a2, a3, a4, a5⟩ := h1 i hi
    exact ⟨av, a1.warm hW, ((va_O.moved hv a2).kept hq).narrow hAB, ((va_OF.moved hv a3).kept hq).narrow hAB, ((va_OF.moved hv a4).kept hq).narrow hAB, ((va_T.moved hv a5).kept hq).narrow hAB⟩
  · obtain ⟨a1, a2, a3, a4⟩ := h2 f hf
    exact ⟨((va_O.moved hv a1).kept hq).narrow hAB, ((va_OF.moved hv a2).kept hq).narrow hAB, ((va_OF.moved hv a3).kept hq).narrow hAB, ((va_OF.moved hv a4).kept hq).narrow hAB⟩
theorem Sta.blind {ad : Nat → Nat} {A : Nat → Prop} {U V : State} (hv : V.vm = U.vm) (hh : V.heap = U.heap) (h : Sta ad A U) : Sta ad A V := by
  have ha : U.vm.Alike V.vm := by rw [hv]; exact Vm.Alike.refl U.vm
  obtain ⟨h1, h2, h3, h4, h5, h6⟩ := h
  rw [← hh] at h3 h4 h5
  refine ⟨fun i hi => ?_, fun f hf => ?_, va_Z.moved ha h3, va_T.moved ha h4, va_Z.moved ha h5, fun w hw => nst_same hw hv.symm (h6 w hw)⟩
  · obtain ⟨av, a1, a2, a3, a4, a5⟩ := h1 i hi
    rw [← hh] at a2 a3 a4 a5
    exact ⟨av, a1.same hv, va_O.moved ha a2, va_OF.moved ha a3, va_OF.moved ha a4, va_T.moved ha a5⟩
  · obtain ⟨a1, a2, a3, a4⟩ := h2 f hf
    rw [← hh] at a1 a2 a3 a4
    exact ⟨va_O.moved ha a1, va_OF.moved ha a2, va_OF.moved ha a3, va_OF.moved ha a4⟩
def rmD (d : Nat) : Room := { frames := d, cells := 0, slots := 0, locals := 34 * d }
def wsM (k : Nat) : List Cond := Cond.code (mt k).1 (mt k).2.1 (mt k).2.2.1 (mt k).2.2.2 :: tb
def Bw (wd : WD) (D : va_G) (aT : Nat → ClassId) (ad : Nat → Nat) (A : Nat → Prop) (u : AH) (t : State) : Prop := va_P D vwCl (wsO wd aT ad u) t.heap ∧ va_K D vwCl (tyA aT) t ∧ va_D A (wsO wd aT ad u) ∧ okH wd u
def Qr (wd : WD) (D : va_G) (aT : Nat → ClassId) (ad : Nat → Nat) (A : Nat → Prop) (R : AR) : Array Value → State → Outcome → State → Prop := fun _ st oc t =>
  (∃ (o : Option AV) (u : AH), oc = .returned (o.map (cv ad)) ∧ R o u ∧ (∀ v, o = some v → okV v) ∧ Bw wd D aT ad A u t) ∧ va_F A st t
def Pw (wd : WD) (D : va_G) (aT : Nat → ClassId) (ad : Nat → Nat) (sz : Nat) (as : List AV) (h : AH) (U : State) : Prop :=
  U.heap.size = sz ∧ va_P D vwCl (wsO wd aT ad h) U.heap ∧ va_K D vwCl (tyA aT) U ∧ va_D (fun _ => True) (wsO wd aT ad h) ∧ okH wd h ∧ (∀ v ∈ as, okV v) ∧ Sta ad (va_A (wsO wd aT ad h) sz) U
/-- the method, called with these, ends, and its end meets R; d calls may stand open in it -/
def Call (wd : WD) (d mid : Nat) (as : List AV) (h : AH) (R : AR) : Prop := ∀ (l : Launch) (D : va_G) (aT : Nat → ClassId) (ad : Nat → Nat) (sz : Nat), Met l (mt mid).1 (wsM mid) (rmD d) (va_Pc (as.map (cv ad)) (Pw wd D aT ad sz as h)) (Qr wd D aT ad (va_A (wsO wd aT ad h) sz) R) 0 0 (va_A (wsO wd aT ad h) sz)
/-- the machine in method m -/
def Cx (m : Nat) (p : Program) (s : State) (mi : MethodId) (args : Array Value) (meth : Method) (c : Code) (D : va_G) (aT : Nat → ClassId) (ad : Nat → Nat) (A : Nat → Prop) : Prop :=
  p.tables.exec = Jvm.exec ∧ c.code = (mt m).2.1 ∧ meth.sig.returnType = (mt m).2.2.2 ∧ c.maxLocals = (mt m).2.2.1 ∧ s.vm.findClass (mt m).1.cls = some mi.cls ∧ (∀ w ∈ wsM m, w.before args s = true) ∧ meth.locks = false ∧ (∀ q, s.heap.size ≤ q → A q) ∧ va_K D vwCl (tyA aT) s ∧ Sta ad A s
/-- from this place of the method the machine comes to its end, and the end meets R -/
def At (wd : WD) (d m pc : Nat) (L : AL) (st : List AV) (h : AH) (R : AR) : Prop :=
  ∀ (p : Program) (l : Launch) (e : Env) (s : State) (mi : MethodId) (args : Array Value) (below : List Frame) (meth : Method) (c : Code) (D : va_G) (aT : Nat → ClassId) (ad : Nat → Nat) (A : Nat → Prop) (H : Heap) (locs : List Loc) (ls : Array Slot),
    Cx m p s mi args meth c D aT ad A → va_P D vwCl (wsO wd aT ad h) H → va_D A (wsO wd aT ad h) → va_S A s.heap H locs → okH wd h → okL L → okS st → lvP ad ls (mt m).2.2.1 L →
    W p l e (rmD d) s mi args below meth c H locs 0 0 (MQ below (Qr wd D aT ad A R) args s 0 0 A) (F0 mi pc ls (st.map (cv ad)))
end
section
/-! numbers: Int32 and Int64 by integers -/
theorem i32t {z : Int} (h : inR z) : (Int32.ofInt z).toInt = z := by
  rw [Int32.toInt_ofInt]
  exact Int.bmod_eq_of_le (by simp [Int32.size]; omega) (by simp [Int32.size]; omega)
theorem i64t {z : Int} (h : inJ z) : (Int64.ofInt z).toInt = z := by
  rw [Int64.toInt_ofInt]
  exact Int.bmod_eq_of_le (by simp [Int64.size]; omega) (by simp [Int64.size]; omega)
theorem i32o (x : Int32) : Int32.ofInt x.toInt = x := Int32.ofInt_toInt x
theorem i64o (x : Int64) : Int64.ofInt x.toInt = x := Int64.ofInt_toInt x
theorem i32R (x : Int32) : inR x.toInt := by
  have h1 := Int32.le_toInt x
  have h2 := Int32.toInt_lt x
  constructor <;> simp at * <;> omega
theorem i64R (x : Int64) : inJ x.toInt := by
  have h1 := Int64.le_toInt x
  have h2 := Int64.toInt_lt x
  constructor <;> simp at * <;> omega
theorem i32lt {a b : Int} (ha : inR a) (hb : inR b) : Int32.ofInt a < Int32.ofInt b ↔ a < b := by
  rw [Int32.lt_iff_toInt_lt, i32t ha, i32t hb]
theorem i32le {a b : Int} (ha : inR a) (hb : inR b) : Int32.ofInt a ≤ Int32.ofInt b ↔ a ≤ b := by
  rw [Int32.le_iff_toInt_le, i32t ha, i32t hb]
theorem i32eq {a b : Int} (ha : inR a) (hb : inR b) : Int32.ofInt a = Int32.ofInt b ↔ a = b := by
  rw [← Int32.toInt_inj, i32t ha, i32t hb]
theorem i64lt {a b : Int} (ha : inJ a) (hb : inJ b) : Int64.ofInt a < Int64.ofInt b ↔ a < b := by
  rw [Int64.lt_iff_toInt_lt, i64t ha, i64t hb]
theorem i64eq {a b : Int} (ha : inJ a) (hb : inJ b) : Int64.ofInt a = Int64.ofInt b ↔ a = b := by
  rw [← Int64.toInt_inj, i64t ha, i64t hb]
theorem i32z : (0 : Int32) = Int32.ofInt 0 := rfl
theorem i64z : (0 : Int64) = Int64.ofInt 0 := rfl
theorem inR0 : inR 0 := by constructor <;> omega
theorem inJ0 : inJ 0 := by constructor <;> omega
theorem i32cl {z : Int} (h : inR z) : (Int32.ofInt z).toNatClampNeg = z.toNat := by
  show (Int32.ofInt z).toInt.toNat = z.toNat
  rw [i32t h]
theorem i32in {z : Int} {n : Nat} (h : inR z) (h0 : 0 ≤ z) (h1 : z < (n : Int)) : vp_in (Int32.ofInt z) n := by
  rw [vp_in_iff, i32t h]
  exact ⟨h0, h1⟩
theorem i32div {a b : Int} (ha : inR a) (hb : inR b) (hq : inR (a.tdiv b)) : Int32.ofInt a / Int32.ofInt b = Int32.ofInt (a.tdiv b) := by
  rw [← Int32.toInt_inj, Int32.toInt_div, i32t ha, i32t hb, i32t hq]
  exact Int.bmod_eq_of_le (by simp; omega) (by simp; omega)
theorem i64div {a b : Int} (ha : inJ a) (hb : inJ b) (hq : inJ (a.tdiv b)) : Int64.ofInt a / Int64.ofInt b = Int64.ofInt (a.tdiv b) := by
  rw [← Int64.toInt_inj, Int64.toInt_div, i64t ha, i64t hb, i64t hq]
  exact Int.bmod_eq_of_le (by simp; omega) (by simp; omega)
theorem tmodR {a b : Int} (ha : inR a) (hb : inR b) (h0 : b ≠ 0) : inR (a.tmod b) := by
  have h1 : (a.tmod b).natAbs ≤ a.natAbs := by
    rw [Int.natAbs_tmod]
    exact Nat.mod_le _ _
  have h2 : (a.tmod b).natAbs < b.natAbs := by
    rw [Int.natAbs_tmod]
    exact Nat.mod_lt _ (by omega)
  constructor <;> omega
theorem tmodJ {a b : Int} (ha : inJ a) (hb : inJ b) (h0 : b ≠ 0) : inJ (a.tmod b) := by
  have h2 : (a.tmod b).natAbs < b.natAbs := by
    rw [Int.natAbs_tmod]
    exact Nat.mod_lt _ (by omega)
  constructor <;> omega
theorem i32rem {a b : Int} (ha : inR a) (hb : inR b) (h0 : b ≠ 0) : Int32.ofInt a - Int32.ofInt a / Int32.ofInt b * Int32.ofInt b = Int32.ofInt (a.tmod b) := by
  rw [← Int32.toInt_inj, rem_toInt, i32t ha, i32t hb, i32t (tmodR ha hb h0)]
theorem i64rem {a b : Int} (ha : inJ a) (hb : inJ b) (h0 : b ≠ 0) : Int64.ofInt a - Int64.ofInt a / Int64.ofInt b * Int64.ofInt b = Int64.ofInt (a.tmod b) := by
  have e : Int64.ofInt a - Int64.ofInt a / Int64.ofInt b * Int64.ofInt b = Int64.ofInt a % Int64.ofInt b := by
    apply Int64.toInt_inj.mp
    have h1 := Int64.le_toInt (Int64.ofInt a % Int64.ofInt b)
    have h2 := Int64.toInt_lt (Int64.ofInt a % Int64.ofInt b)
    rw [Int64.toInt_sub, Int64.toInt_mul, Int64.toInt_div, Int.bmod_mul_bmod, Int.sub_bmod_bmod, Int.mul_comm ((Int64.ofInt a).toInt.tdiv (Int64.ofInt b).toInt), ← Int.tmod_def, ← Int64.toInt_mod]
    exact Int.bmod_eq_of_le_mul_two (by omega) (by omega)
  rw [e, ← Int64.toInt_inj, Int64.toInt_mod, i64t ha, i64t hb, i64t (tmodJ ha hb h0)]
theorem andIR (a b : Int) : inR (andI a b) := i32R _
theorem orIR (a b : Int) : inR (orI a b) := i32R _
theorem shlIR (a b : Int) : inR (shlI a b) := i32R _
theorem shrIR (a b : Int) : inR (shrI a b) := i32R _
theorem andJR (a b : Int) : inJ (andJ a b) := i64R _
theorem orJR (a b : Int) : inJ (orJ a b) := i64R _
theorem shlJR (a b : Int) : inJ (shlJ a b) := i64R _
theorem shrJR (a b : Int) : inJ (shrJ a b) := i64R _
theorem cmpJR (a b : Int) : inR (cmpJ a b) := by unfold cmpJ; repeat' split <;> constructor <;> omega
theorem cmpJv {a b : Int} (ha : inJ a) (hb : inJ b) : lg_cmp (Int64.ofInt a) (Int64.ofInt b) = Int32.ofInt (cmpJ a b) := by
  unfold lg_cmp cmpJ
  simp only [gt_iff_lt, i64lt hb ha, i64eq ha hb]
  by_cases h1 : b < a
  · rw [if_pos h1, if_neg (by omega), if_neg (by omega)]; rfl
  · by_cases h2 : a = b
    · rw [if_neg h1, if_pos h2, if_neg (by omega), if_pos h2]; rfl
    · rw [if_neg h1, if_neg h2, if_pos (by omega)]; rfl
end
section
/-! locals, cells -/
theorem lgt_lst_same : ∀ (L : AL) (i : Nat) (v : Option AV), i < L.length → lgt (lst L i v) i = v
  | _ :: _, 0, _, _ => rfl
  | _ :: L, i + 1, v, h => lgt_lst_same L i v (Nat.lt_of_succ_lt_succ h)
  | [], _, _, h => absurd h (Nat.not_lt_zero _)
theorem lgt_lst_ne : ∀ (L : AL) (i j : Nat) (v : Option AV), j ≠ i → lgt (lst L i v) j = lgt L j
  | [], _, _, _, _ => rfl
  | _ :: _, 0, 0, _, h => absurd rfl h
  | _ :: _, 0, _ + 1, _, _ => rfl
  | _ :: _, _ + 1, 0, _, _ => rfl
  | _ :: L, i + 1, j + 1, v, h => lgt_lst_ne L i j v (fun e => h (by rw [e]))
theorem lst_length : ∀ (L : AL) (i : Nat) (v : Option AV), (lst L i v).length = L.length
  | [], _, _ => rfl
  | _ :: _, 0, _ => rfl
  | _ :: L, i + 1, v => by simp [lst, lst_length L i v]
theorem lcl_length (L : AL) (k : Nat) : (lcl L k).length = L.length := by
  cases k with
  | zero => rfl
  | succ k =>
    show (bif is2 (lgt L k) then lst L k none else L).length = L.length
    cases is2 (lgt L k) <;> simp [lst_length]
theorem lcl_some {L : AL} {k i : Nat} {v : AV} (h : lgt (lcl L k) i = some v) : lgt L i = some v ∧ (i + 1 = k → is2 (some v) = false) := by
  cases k with
  | zero => exact ⟨h, fun e => absurd e (by omega)⟩
  | succ k =>
    have h : lgt (bif is2 (lgt L k) then lst L k none else L) i = some v := h
    cases hq : is2 (lgt L k) with
    | false =>
      rw [hq] at h
      refine ⟨h, fun e => ?_⟩
      have : i = k := by omega
      subst this
      have h' : lgt L i = some v := h
      rw [h'] at hq
      exact hq
    | true =>
      rw [hq] at h
      have h' : lgt (lst L k none) i = some v := h
      by_cases e : i = k
      · subst e
        by_cases hl : i < L.length
        · rw [lgt_lst_same _ _ _ hl] at h'
          cases h'
        · exfalso
          have : ∀ (L : AL) (i : Nat), L.length ≤ i → lgt L i = none := by
            intro L
            induction L with
            | nil => intro i _; rfl
            | cons u L ih =>
              intro i hi
              cases i with
              | zero => exact absurd hi (by simp)
              | succ i => exact ih i (by simpa using hi)
          rw [this _ _ (by rw [lst_length]; omega)] at h'
          cases h'
      · rw [lgt_lst_ne _ _ _ _ e] at h'
        exact ⟨h', fun e2 => absurd e2 (by omega)⟩
theorem lgt_out : ∀ (L : AL) (i : Nat), L.length ≤ i → lgt L i = none
  | [], _, _ => rfl
  | _ :: L, 0, h => absurd h (by simp)
  | _ :: L, i + 1, h => lgt_out L i (by simpa using h)
theorem lgt_lt {L : AL} {i : Nat} {v : AV} (h : lgt L i = some v) : i < L.length := by
  rcases Nat.lt_or_ge i L.length with q | q
  · exact q
  · rw [lgt_out L i q] at h; cases h
theorem lgt_lmk : ∀ (L : AL) (bs : List Bool) (i : Nat) (v : AV), lgt (lmk L bs) i = some v → lgt L i = some v
  | [], _, _, _, h => by simp [lmk, lgt] at h
  | _ :: _, [], _, _, h => by simp [lmk, lgt] at h
  | u :: L, b :: bs, 0, v, h => by
    cases b with
    | true => exact h
    | false => cases h
  | _ :: L, _ :: bs, i + 1, v, h => lgt_lmk L bs i v h
theorem lmk_length : ∀ (L : AL) (bs : List Bool), L.length = bs.length → (lmk L bs).length = L.length
  | [], _, _ => by simp [lmk]
  | _ :: _, [], h => by simp at h
  | _ :: L, _ :: bs, h => by simp [lmk, lmk_length L bs (by simpa using h)]
/-- the locals as the kit has them -/
def lta (ad : Nat → Nat) (L : AL) : List (Nat × Value) := (List.range L.length).filterMap fun i => (lgt L i).map fun v => (i, cv ad v)
theorem lta_mem {ad : Nat → Nat} {L : AL} {q : Nat × Value} : q ∈ lta ad L ↔ ∃ v, lgt L q.1 = some v ∧ q.2 = cv ad v := by
  unfold lta
  simp only [List.mem_filterMap, List.mem_range, Option.map_eq_some_iff]
  constructor
  · rintro ⟨i, hi, v, hv, rfl⟩
    exact ⟨v, hv, rfl⟩
  · rintro ⟨v, hv, he⟩
    exact ⟨q.1, lgt_lt hv, v, hv, by rw [← he]⟩
theorem lvP.has {ad : Nat → Nat} {ls : Array Slot} {n : Nat} {L : AL} (h : lvP ad ls n L) : lv_has ls n (lta ad L) := by
  refine ⟨h.1, h.2.1, fun q hq => ?_⟩
  obtain ⟨v, hv, he⟩ := lta_mem.mp hq
  rw [he]
  exact h.2.2.2 q.1 v hv
theorem lvP.of {ad : Nat → Nat} {ls : Array Slot} {n : Nat} {L : AL} {l : List (Nat × Value)} (h : lv_has ls n l) (hn : L.length = n) (hl : ∀ (i : Nat) (v : AV), lgt L i = some v → (i, cv ad v) ∈ l) : lvP ad ls n L :=
  ⟨h.1, h.2.1, hn, fun i v hv => h.2.2 _ (hl i v hv)⟩
theorem cv_cat1 {ad : Nat → Nat} {v : AV} (h : is2 (some v) = false) : (cv ad v).category = 1 := by
  match v, h with
  | .inl _, _ => rfl
  | .inr (.inr _), _ => rfl
theorem cv_cat2 {ad : Nat → Nat} {v : AV} (h : is2 (some v) = true) : (cv ad v).category = 2 := by
  match v, h with
  | .inr (.inl _), _ => rfl
/-- behind a store of one word -/
theorem lvP.st1 {ad : Nat → Nat} {ls : Array Slot} {n i : Nat} {L : AL} {v : AV} (hn : L.length = n) (h : lv_has ls n ((i, cv ad v) :: (lta ad L).filter (fun q => !(q.1 == i) && !(q.1 + 1 == i && q.2.category == 2)))) (hi : i < n) : lvP ad ls n (lst (lcl L i) i (some v)) := by
  refine lvP.of h (by rw [lst_length, lcl_length]; exact hn) (fun j u hu => ?_)
  by_cases e : j = i
  · subst e
    rw [lgt_lst_same _ _ _ (by rw [lcl_length, hn]; exact hi)] at hu
    cases hu
    exact List.mem_cons_self
  · rw [lgt_lst_ne _ _ _ _ e] at hu
    obtain ⟨h1, h2⟩ := lcl_some hu
    refine List.mem_cons_of_mem _ (List.mem_filter.mpr ⟨lta_mem.mpr ⟨u, h1, rfl⟩, ?_⟩)
    simp only [Bool.and_eq_true, Bool.not_eq_true', beq_eq_false_iff_ne, ne_eq]
    refine ⟨e, ?_⟩
    by_cases e2 : j + 1 = i
    · rw [cv_cat1 (h2 e2)]; simp
    · simp [e2]
theorem lvP.st2 {ad : Nat → Nat} {ls : Array Slot} {n i : Nat} {L : AL} {v : AV} (hn : L.length = n) (h : lv_has ls n ((i, cv ad v) :: (lta ad L).filter (fun q => !(q.1 == i) && (!(q.1 == i + 1) && !(q.1 + 1 == i && q.2.category == 2))))) (hi : i + 1 < n) : lvP ad ls n (lst (lst (lcl L i) i (some v)) (i + 1) none) := by
  refine lvP.of h (by rw [lst_length, lst_length, lcl_length]; exact hn) (fun j u hu => ?_)
  by_cases e1 : j = i + 1
  · subst e1
    rw [lgt_lst_same _ _ _ (by rw [lst_length, lcl_length, hn]; exact hi)] at hu
    cases hu
  rw [lgt_lst_ne _ _ _ _ e1] at hu
  by_cases e : j = i
  · subst e
    rw [lgt_lst_same _ _ _ (by rw [lcl_length, hn]; omega)] at hu
    cases hu
    exact List.mem_cons_self
  · rw [lgt_lst_ne _ _ _ _ e] at hu
    obtain ⟨h1, h2⟩ := lcl_some hu
    refine List.mem_cons_of_mem _ (List.mem_filter.mpr ⟨lta_mem.mpr ⟨u, h1, rfl⟩, ?_⟩)
    simp only [Bool.and_eq_true, Bool.not_eq_true', beq_eq_false_iff_ne, ne_eq]
    refine ⟨e, e1, ?_⟩
    by_cases e2 : j + 1 = i
    · rw [cv_cat1 (h2 e2)]; simp
    · simp [e2]
theorem okL.st {L : AL} {i : Nat} {v : AV} (h : okL L) (hv : okV v) : okL (lst (lcl L i) i (some v)) := by
  intro j u hu
  by_cases e : j = i
  · subst e
    have hl := lgt_lt hu
    rw [lst_length] at hl
    rw [lgt_lst_same _ _ _ hl] at hu
    cases hu
    exact hv
  · rw [lgt_lst_ne _ _ _ _ e] at hu
    exact h j u (lcl_some hu).1
theorem okL.st2 {L : AL} {i : Nat} (h : okL L) : okL (lst L i none) := by
  intro j u hu
  by_cases e : j = i
  · subst e
    have hl := lgt_lt hu
    rw [lst_length] at hl
    rw [lgt_lst_same _ _ _ hl] at hu
    cases hu
  · rw [lgt_lst_ne _ _ _ _ e] at hu
    exact h j u hu
/-! cells -/
theorem wsO_get {wd : WD} {aT : Nat → ClassId} {ad : Nat → Nat} {h : AH} {k : Nat} (hk : k < wd.1) : (wsO wd aT ad h)[k]? = some (ad k, cel wd aT ad h k) := by
  unfold wsO
  rw [List.getElem?_map, List.getElem?_range hk]
  rfl
theorem wsO_set {wd : WD} {aT : Nat → ClassId} {ad : Nat → Nat} {h h' : AH} {k : Nat} {c : va_E} (hc : cel wd aT ad h' k = c) (ho : ∀ j, j ≠ k → cel wd aT ad h' j = cel wd aT ad h j) : (wsO wd aT ad h).set k (ad k, c) = wsO wd aT ad h' := by
  apply List.ext_getElem?
  intro j
  unfold wsO
  rw [List.getElem?_set]
  by_cases e : k = j
  · subst e
    simp only [List.length_map, List.length_range, if_true]
    by_cases hk : k < wd.1
    · rw [if_pos hk, List.getElem?_map, List.getElem?_range hk, ← hc]; rfl
    · rw [if_neg hk, List.getElem?_map, List.getElem?_eq_none (by simpa using Nat.le_of_not_lt hk)]; rfl
  · rw [if_neg e]
    rw [List.getElem?_map, List.getElem?_map]
    by_cases hj : j < wd.1
    · rw [List.getElem?_range hj]
      simp only [Option.map_some]
      rw [ho j (Ne.symm e)]
    · rw [List.getElem?_eq_none (by simpa using Nat.le_of_not_lt hj)]; rfl
theorem cel_obj {wd : WD} {aT : Nat → ClassId} {ad : Nat → Nat} {h : AH} {k ci : Nat} (hb : isOb wd k ci = true) : k < wd.1 ∧ cel wd aT ad h k = .inr (ci, fvl wd ad h k ci) := by
  simp only [isOb, Bool.and_eq_true, beq_iff_eq, Nat.blt_eq] at hb
  refine ⟨hb.1, ?_⟩
  unfold cel
  rw [if_pos hb.2.1, hb.2.2]
theorem cel_arr {wd : WD} {aT : Nat → ClassId} {ad : Nat → Nat} {h : AH} {k ty : Nat} (hb : isAb wd k ty = true) : k < wd.1 ∧ (wd.2.1 k).2.1 = ty ∧ cel wd aT ad h k = .inl (aT ty, (wd.2.1 k).2.2, if ty = 1 then .inr (.inl fun i => Int64.ofInt (h.2 k i)) else .inl fun i => Int32.ofInt (h.2 k i)) := by
  simp only [isAb, Bool.and_eq_true, beq_iff_eq, Nat.blt_eq] at hb
  refine ⟨hb.1, hb.2.2, ?_⟩
  unfold cel
  rw [if_neg (by rw [hb.2.1]; decide), hb.2.2]
theorem ob_spec {b : Bool} {P : Prop} (h : ob b P) : b = true ∧ P := by
  cases b with
  | true => exact ⟨rfl, h⟩
  | false => exact absurd h id
theorem ob_in {b : Bool} {P : Prop} (hb : b = true) (h : P) : ob b P := by
  subst hb
  exact h
theorem zok_spec {z : Int} {P : Prop} (h : zok z P) : (z = 0 ∨ z = 1) ∧ P := by
  unfold zok at h
  split at h
  · exact ⟨Or.inl rfl, h⟩
  · exact ⟨Or.inr rfl, h⟩
  · exact absurd h id
theorem zok_in {z : Int} {P : Prop} (hz : z = 0 ∨ z = 1) (h : P) : zok z P := by
  rcases hz with rfl | rfl <;> exact h
end
section
/-! the plain instructions: wp is sound -/
theorem okS.tl {v : AV} {st : List AV} (h : okS (v :: st)) : okS st := fun u hu => h u (List.mem_cons_of_mem _ hu)
theorem okS.hd {v : AV} {st : List AV} (h : okS (v :: st)) : okV v := h v List.mem_cons_self
theorem okS.cons {v : AV} {st : List AV} (hv : okV v) (h : okS st) : okS (v :: st) := fun u hu => (List.mem_cons.mp hu).elim (fun e => by rw [e]; exact hv) (h u)
section OKI
variable {wd : WD} {d m pc pc' : Nat} {R : AR} {L : AL} {st st' : List AV} {h : AH} {nx : AL → List AV → AH → Prop} {jp : Nat → AL → List AV → AH → Prop}
theorem At.go (kit : ∀ (p : Program) (l : Launch) (e : Env) (s : State) (mi : MethodId) (args : Array Value) (below : List Frame) (meth : Method) (c : Code) (ad : Nat → Nat) (H : Heap) (locs : List Loc) (ls : Array Slot) (Q : State → Prop),
      p.tables.exec = Jvm.exec → c.code = (mt m).2.1 → okS st → okL L → lvP ad ls (mt m).2.2.1 L → W p l e (rmD d) s mi args below meth c H locs 0 0 Q (F0 mi pc' ls (st'.map (cv ad))) → W p l e (rmD d) s mi args below meth c H locs 0 0 Q (F0 mi pc ls (st.map (cv ad))))
    (hok : okS st → okL L → okS st') (k : At wd d m pc' L st' h R) : At wd d m pc L st h R := by
  intro p l e s mi args below meth c D aT ad A H locs ls C hP hD hS hH hL hs hlv
  exact kit p l e s mi args below meth c ad H locs ls _ C.1 C.2.1 hs hL hlv (k p l e s mi args below meth c D aT ad A H locs ls C hP hD hS hH hL (hok hs hL) hlv)
theorem ok_ldI {k pc2 : Nat} (hd : (∃ q : Fin 4, (q : Nat) = k ∧ decode (mt m).2.1 pc = .ok (.iload_n q, 1) ∧ pc2 = pc + 1) ∨ (decode (mt m).2.1 pc = .ok (.iload k, 2) ∧ pc2 = pc + 2)) (hn : ∀ L' st' h', nx L' st' h' → At wd d m pc2 L' st' h' R) (hw : ldI L st h nx k) : At wd d m pc L st h R := by
  unfold ldI at hw
  match hv : lgt L k, hw with
  | some (.inl z), hw =>
    refine At.go (pc' := pc2) (st' := .inl z :: st) ?_ (fun hs hL => hs.cons (hL k _ hv)) (hn _ _ _ hw)
    intro p l e s mi args below meth c ad H locs ls Q hx hb hs hL hlv kk
    have hat := hlv.2.2.2 k _ hv
    rcases hd with ⟨q, hq, hd, rfl⟩ | ⟨hd, rfl⟩
    · exact lv_iload_n hx hb hd hq hat kk
    · exact lv_iload hx hb hd hat kk
theorem ok_ldJ {k pc2 : Nat} (hd : (∃ q : Fin 4, (q : Nat) = k ∧ decode (mt m).2.1 pc = .ok (.lload_n q, 1) ∧ pc2 = pc + 1) ∨ (decode (mt m).2.1 pc = .ok (.lload k, 2) ∧ pc2 = pc + 2)) (hn : ∀ L' st' h', nx L' st' h' → At wd d m pc2 L' st' h' R) (hw : ldJ L st h nx k) : At wd d m pc L st h R := by
  unfold ldJ at hw
  match hv : lgt L k, hw with
  | some (.inr (.inl z)), hw =>
    refine At.go (pc' := pc2) (st' := .inr (.inl z) :: st) ?_ (fun hs hL => hs.cons (hL k _ hv)) (hn _ _ _ hw)
    intro p l e s mi args below meth c ad H locs ls Q hx hb hs hL hlv kk
    have hat := hlv.2.2.2 k _ hv
    rcases hd with ⟨q, hq, hd, rfl⟩ | ⟨hd, rfl⟩
    · exact lv_lload_n hx hb hd hq hat kk
    · exact lv_lload hx hb hd hat kk
theorem ok_ldR {k pc2 : Nat} (hd : (∃ q : Fin 4, (q : Nat) = k ∧ decode (mt m).2.1 pc = .ok (.aload_n q, 1) ∧ pc2 = pc + 1) ∨ (decode (mt m).2.1 pc = .ok (.aload k, 2) ∧ pc2 = pc + 2)) (hn : ∀ L' st' h', nx L' st' h' → At wd d m pc2 L' st' h' R) (hw : ldR L st h nx k) : At wd d m pc L st h R := by
  unfold ldR at hw
  match hv : lgt L k, hw with
  | some (.inr (.inr z)), hw =>
    refine At.go (pc' := pc2) (st' := .inr (.inr z) :: st) ?_ (fun hs hL => hs.cons (hL k _ hv)) (hn _ _ _ hw)
    intro p l e s mi args below meth c ad H locs ls Q hx hb hs hL hlv kk
    have hat := hlv.2.2.2 k _ hv
    rcases hd with ⟨q, hq, hd, rfl⟩ | ⟨hd, rfl⟩
    · exact lv_aload_n hx hb hd hq hat kk
    · exact lv_aload hx hb hd hat kk
theorem At.len {k : Nat} (hk : (mt m).2.2.1 ≤ k → At wd d m pc L st h R) (hk2 : k < (mt m).2.2.1 → At wd d m pc L st h R) : At wd d m pc L st h R := (Nat.lt_or_ge k (mt m).2.2.1).elim hk2 hk
theorem ok_stI {k pc2 : Nat} (hkm : k < (mt m).2.2.1) (hd : (∃ q : Fin 4, (q : Nat) = k ∧ decode (mt m).2.1 pc = .ok (.istore_n q, 1) ∧ pc2 = pc + 1) ∨ (decode (mt m).2.1 pc = .ok (.istore k, 2) ∧ pc2 = pc + 2)) (hn : ∀ L' st' h', nx L' st' h' → At wd d m pc2 L' st' h' R) (hw : stI L st h nx k) : At wd d m pc L st h R := by
  match st, hw with
  | .inl z :: st, hw =>
    intro p l e s mi args below meth c D aT ad A H locs ls C hP hD hS hH hL hs hlv
    have kk : ∀ ls', lv_has ls' (mt m).2.2.1 ((k, .int (Int32.ofInt z)) :: (lta ad L).filter (fun q => !(q.1 == k) && !(q.1 + 1 == k && q.2.category == 2))) → W p l e (rmD d) s mi args below meth c H locs 0 0 (MQ below (Qr wd D aT ad A R) args s 0 0 A) (F0 mi pc2 ls' (st.map (cv ad))) := fun ls' hl' =>
      hn _ _ _ hw p l e s mi args below meth c D aT ad A H locs ls' C hP hD hS hH (hL.st hs.hd) hs.tl (lvP.st1 (v := .inl z) hlv.2.2.1 hl' hkm)
    rcases hd with ⟨q, hq, hd, rfl⟩ | ⟨hd, rfl⟩
    · exact lv_istore_n C.1 C.2.1 hd hq hlv.has hkm rfl kk
    · exact lv_istore C.1 C.2.1 hd hlv.has hkm rfl kk
theorem ok_stR {k pc2 : Nat} (hkm : k < (mt m).2.2.1) (hd : (∃ q : Fin 4, (q : Nat) = k ∧ decode (mt m).2.1 pc = .ok (.astore_n q, 1) ∧ pc2 = pc + 1) ∨ (decode (mt m).2.1 pc = .ok (.astore k, 2) ∧ pc2 = pc + 2)) (hn : ∀ L' st' h', nx L' st' h' → At wd d m pc2 L' st' h' R) (hw : stR L st h nx k) : At wd d m pc L st h R := by
  match st, hw with
  | .inr (.inr z) :: st, hw =>
    intro p l e s mi args below meth c D aT ad A H locs ls C hP hD hS hH hL hs hlv
    have kk : ∀ ls', lv_has ls' (mt m).2.2.1 ((k, .ref (ad z)) :: (lta ad L).filter (fun q => !(q.1 == k) && !(q.1 + 1 == k && q.2.category == 2))) → W p l e (rmD d) s mi args below meth c H locs 0 0 (MQ below (Qr wd D aT ad A R) args s 0 0 A) (F0 mi pc2 ls' (st.map (cv ad))) := fun ls' hl' =>
      hn _ _ _ hw p l e s mi args below meth c D aT ad A H locs ls' C hP hD hS hH (hL.st hs.hd) hs.tl (lvP.st1 (v := .inr (.inr z)) hlv.2.2.1 hl' hkm)
    rcases hd with ⟨q, hq, hd, rfl⟩ | ⟨hd, rfl⟩
    · exact lv_astore_n C.1 C.2.1 hd hq hlv.has hkm rfl kk
    · exact lv_astore C.1 C.2.1 hd hlv.has hkm rfl kk
theorem ok_stJ {k pc2 : Nat} (hkm : k + 1 < (mt m).2.2.1) (hd : (∃ q : Fin 4, (q : Nat) = k ∧ decode (mt m).2.1 pc = .ok (.lstore_n q, 1) ∧ pc2 = pc + 1) ∨ (decode (mt m).2.1 pc = .ok (.lstore k, 2) ∧ pc2 = pc + 2)) (hn : ∀ L' st' h', nx L' st' h' → At wd d m pc2 L' st' h' R) (hw : stJ L st h nx k) : At wd d m pc L st h R := by
  match st, hw with
  | .inr (.inl z) :: st, hw =>
    intro p l e s mi args below meth c D aT ad A H locs ls C hP hD hS hH hL hs hlv
    have kk : ∀ ls', lv_has ls' (mt m).2.2.1 ((k, .long (Int64.ofInt z)) :: (lta ad L).filter (fun q => !(q.1 == k) && (!(q.1 == k + 1) && !(q.1 + 1 == k && q.2.category == 2)))) → W p l e (rmD d) s mi args below meth c H locs 0 0 (MQ below (Qr wd D aT ad A R) args s 0 0 A) (F0 mi pc2 ls' (st.map (cv ad))) := fun ls' hl' =>
      hn _ _ _ hw p l e s mi args below meth c D aT ad A H locs ls' C hP hD hS hH (okL.st2 (hL.st hs.hd)) hs.tl (lvP.st2 (v := .inr (.inl z)) hlv.2.2.1 hl' hkm)
    rcases hd with ⟨q, hq, hd, rfl⟩ | ⟨hd, rfl⟩
    · exact lv_lstore_n C.1 C.2.1 hd hq hlv.has hkm rfl kk
    · exact lv_lstore C.1 C.2.1 hd hlv.has hkm rfl kk
theorem ok_iinc {k : Nat} {n : Int} (hd : decode (mt m).2.1 pc = .ok (.iinc k n, 3)) (hn : ∀ L' st' h', nx L' st' h' → At wd d m (pc + 3) L' st' h' R) (hw : wpP wd R pc L st h nx jp (.iinc k n)) : At wd d m pc L st h R := by
  change (match lgt L k with | some (.inl z) => inR (z + n) ∧ nx (lst L k (some (.inl (z + n)))) st h | _ => False) at hw
  match hv : lgt L k, hw with
  | some (.inl z), hw =>
    intro p l e s mi args below meth c D aT ad A H locs ls C hP hD hS hH hL hs hlv
    have hkm : k < (mt m).2.2.1 := by rw [← hlv.2.2.1]; exact lgt_lt hv
    obtain ⟨j, hj⟩ := List.mem_iff_getElem?.mp (lta_mem (ad := ad) (L := L) (q := (k, .int (Int32.ofInt z))) |>.mpr ⟨_, hv, rfl⟩)
    have e1 : lst (lcl L k) k (some (.inl (z + n))) = lst L k (some (.inl (z + n))) ∨ ∃ k', k = k' + 1 ∧ is2 (lgt L k') = true := by
      cases k with
      | zero => exact Or.inl rfl
      | succ k =>
        cases hq : is2 (lgt L k) with
        | true => exact Or.inr ⟨k, rfl, hq⟩
        | false =>
          refine Or.inl ?_
          show lst (bif is2 (lgt L k) then lst L k none else L) (k + 1) _ = _
          rw [hq]; rfl
    rcases e1 with e1 | ⟨k', rfl, h2⟩
    · refine lv_iinc C.1 C.2.1 hd hlv.has hj (v := Int32.ofInt (z + n)) (by rw [Int32.ofInt_add]) hkm rfl (fun ls' hl' => ?_)
      have := lvP.st1 (ad := ad) (v := .inl (z + n)) hlv.2.2.1 hl' hkm
      have o1 := okL.st (i := k) hL (v := .inl (z + n)) hw.1
      rw [e1] at this o1
      exact hn _ _ _ hw.2 p l e s mi args below meth c D aT ad A H locs ls' C hP hD hS hH o1 hs this
    · exfalso
      cases hq : lgt L k' with
      | none => rw [hq] at h2; cases h2
      | some u =>
        rw [hq] at h2
        have h3 := hlv.2.2.2 k' u hq
        have h4 := hlv.2.1.1 k' _ h3 (cv_cat2 h2)
        have h5 := hlv.2.2.2 (k' + 1) _ hv
        rw [h4] at h5
        cases h5
end OKI
end
section
section OKI2
variable {wd : WD} {d m pc pc' : Nat} {R : AR} {L : AL} {st st' : List AV} {h : AH} {nx : AL → List AV → AH → Prop} {jp : Nat → AL → List AV → AH → Prop}
abbrev HN (wd : WD) (d m pc2 : Nat) (R : AR) (nx : AL → List AV → AH → Prop) : Prop := ∀ L' st' h', nx L' st' h' → At wd d m pc2 L' st' h' R
theorem ok_push {v : AV} {pc2 : Nat} (hv : okV v) (kit : ∀ (p : Program) (l : Launch) (e : Env) (s : State) (mi : MethodId) (args : Array Value) (below : List Frame) (meth : Method) (c : Code) (ad : Nat → Nat) (H : Heap) (locs : List Loc) (ls : Array Slot) (Q : State → Prop),
      p.tables.exec = Jvm.exec → c.code = (mt m).2.1 → W p l e (rmD d) s mi args below meth c H locs 0 0 Q (F0 mi pc2 ls (cv ad v :: st.map (cv ad))) → W p l e (rmD d) s mi args below meth c H locs 0 0 Q (F0 mi pc ls (st.map (cv ad))))
    (hn : HN wd d m pc2 R nx) (hw : nx L (v :: st) h) : At wd d m pc L st h R :=
  At.go (pc' := pc2) (st' := v :: st) (fun p l e s mi args below meth c ad H locs ls Q hx hb _ _ _ kk => kit p l e s mi args below meth c ad H locs ls Q hx hb kk) (fun hs _ => hs.cons hv) (hn _ _ _ hw)
theorem ok_iconst {n : Int} (hd : decode (mt m).2.1 pc = .ok (.iconst n, 1)) (hr : inR n) (hn : HN wd d m (pc + 1) R nx) (hw : wpP wd R pc L st h nx jp (.iconst n)) : At wd d m pc L st h R :=
  ok_push (v := .inl n) hr (fun p l e s mi args below meth c ad H locs ls Q hx hb kk => lv_iconst hx hb hd rfl kk) hn hw
theorem ok_bipush {n : Int} (hd : decode (mt m).2.1 pc = .ok (.bipush n, 2)) (hr : -128 ≤ n ∧ n < 128) (hn : HN wd d m (pc + 2) R nx) (hw : wpP wd R pc L st h nx jp (.bipush n)) : At wd d m pc L st h R :=
  ok_push (v := .inl n) (by constructor <;> omega) (fun p l e s mi args below meth c ad H locs ls Q hx hb kk => lv_bipush hx hb hd (v := Int32.ofInt n) (by
    rw [← Int32.toInt_inj, Int8.toInt_toInt32, Int8.toInt_ofInt, i32t (by constructor <;> omega)]
    exact Int.bmod_eq_of_le (by simp [Int8.size]; omega) (by simp [Int8.size]; omega)) kk) hn hw
theorem ok_sipush {n : Int} (hd : decode (mt m).2.1 pc = .ok (.sipush n, 3)) (hr : -32768 ≤ n ∧ n < 32768) (hn : HN wd d m (pc + 3) R nx) (hw : wpP wd R pc L st h nx jp (.sipush n)) : At wd d m pc L st h R :=
  ok_push (v := .inl n) (by constructor <;> omega) (fun p l e s mi args below meth c ad H locs ls Q hx hb kk => lv_sipush hx hb hd (v := Int32.ofInt n) (by
    rw [← Int32.toInt_inj, Int16.toInt_toInt32, Int16.toInt_ofInt, i32t (by constructor <;> omega)]
    exact Int.bmod_eq_of_le (by simp [Int16.size]; omega) (by simp [Int16.size]; omega)) kk) hn hw
theorem ok_lconst {n : Fin 2} (hd : decode (mt m).2.1 pc = .ok (.lconst n, 1)) (hn : HN wd d m (pc + 1) R nx) (hw : wpP wd R pc L st h nx jp (.lconst n)) : At wd d m pc L st h R :=
  ok_push (v := .inr (.inl ((n : Nat) : Int))) (by show inJ _; constructor <;> omega) (fun p l e s mi args below meth c ad H locs ls Q hx hb kk => lv_lconst hx hb hd (v := Int64.ofInt ((n : Nat) : Int)) (by rw [← Int64.toInt_inj]; match n with | 0 => rfl | 1 => rfl) kk) hn hw
/-- two ints to one -/
theorem ok_b {f : Int → Int → Int} {op : Int32 → Int32 → Int32} {a b : Int} {pc2 : Nat} (hs2 : st = .inl b :: .inl a :: st')
    (hf : inR a → inR b → inR (f a b)) (he : inR a → inR b → op (Int32.ofInt a) (Int32.ofInt b) = Int32.ofInt (f a b))
    (kit : ∀ (p : Program) (l : Launch) (e : Env) (s : State) (mi : MethodId) (args : Array Value) (below : List Frame) (meth : Method) (c : Code) (H : Heap) (locs : List Loc) (ls : Array Slot) (Q : State → Prop) (rest : List Value) (x y : Int32),
      p.tables.exec = Jvm.exec → c.code = (mt m).2.1 → inR a → inR b → x = Int32.ofInt a → y = Int32.ofInt b → W p l e (rmD d) s mi args below meth c H locs 0 0 Q (F0 mi pc2 ls (.int (op x y) :: rest)) → W p l e (rmD d) s mi args below meth c H locs 0 0 Q (F0 mi pc ls (.int y :: .int x :: rest)))
    (hn : HN wd d m pc2 R nx) (hw : inR a → inR b → nx L (.inl (f a b) :: st') h) : At wd d m pc L st h R := by
  subst hs2
  intro p l e s mi args below meth c D aT ad A H locs ls C hP hD hS hH hL hs hlv
  have hb : inR b := hs.hd
  have ha : inR a := hs.tl.hd
  refine kit p l e s mi args below meth c H locs ls _ (st'.map (cv ad)) (Int32.ofInt a) (Int32.ofInt b) C.1 C.2.1 ha hb rfl rfl ?_
  rw [he ha hb]
  exact hn _ _ _ (hw ha hb) p l e s mi args below meth c D aT ad A H locs ls C hP hD hS hH hL (hs.tl.tl.cons (v := .inl (f a b)) (hf ha hb)) hlv
/-- two longs to one -/
theorem ok_jb {f : Int → Int → Int} {op : Int64 → Int64 → Int64} {a b : Int} {pc2 : Nat} (hs2 : st = .inr (.inl b) :: .inr (.inl a) :: st')
    (hf : inJ a → inJ b → inJ (f a b)) (he : inJ a → inJ b → op (Int64.ofInt a) (Int64.ofInt b) = Int64.ofInt (f a b))
    (kit : ∀ (p : Program) (l : Launch) (e : Env) (s : State) (mi : MethodId) (args : Array Value) (below : List Frame) (meth : Method) (c : Code) (H : Heap) (locs : List Loc) (ls : Array Slot) (Q : State → Prop) (rest : List Value) (x y : Int64),
      p.tables.exec = Jvm.exec → c.code = (mt m).2.1 → inJ a → inJ b → x = Int64.ofInt a → y = Int64.ofInt b → W p l e (rmD d) s mi args below meth c H locs 0 0 Q (F0 mi pc2 ls (.long (op x y) :: rest)) → W p l e (rmD d) s mi args below meth c H locs 0 0 Q (F0 mi pc ls (.long y :: .long x :: rest)))
    (hn : HN wd d m pc2 R nx) (hw : inJ a → inJ b → nx L (.inr (.inl (f a b)) :: st') h) : At wd d m pc L st h R := by
  subst hs2
  intro p l e s mi args below meth c D aT ad A H locs ls C hP hD hS hH hL hs hlv
  have hb : inJ b := hs.hd
  have ha : inJ a := hs.tl.hd
  refine kit p l e s mi args below meth c H locs ls _ (st'.map (cv ad)) (Int64.ofInt a) (Int64.ofInt b) C.1 C.2.1 ha hb rfl rfl ?_
  rw [he ha hb]
  exact hn _ _ _ (hw ha hb) p l e s mi args below meth c D aT ad A H locs ls C hP hD hS hH hL (hs.tl.tl.cons (v := .inr (.inl (f a b))) (hf ha hb)) hlv
theorem p2_spec {f : Int → Int → List AV → Prop} (h : p2 st f) : ∃ a b st', st = .inl b :: .inl a :: st' ∧ f a b st' := by
  match st, h with
  | .inl b :: .inl a :: st', h => exact ⟨a, b, st', rfl, h⟩
theorem p1_spec {f : Int → List AV → Prop} (h : p1 st f) : ∃ a st', st = .inl a :: st' ∧ f a st' := by
  match st, h with
  | .inl a :: st', h => exact ⟨a, st', rfl, h⟩
theorem j1_spec {f : Int → List AV → Prop} (h : j1 st f) : ∃ a st', st = .inr (.inl a) :: st' ∧ f a st' := by
  match st, h with
  | .inr (.inl a) :: st', h => exact ⟨a, st', rfl, h⟩
theorem j2_spec {f : Int → Int → List AV → Prop} (h : j2 st f) : ∃ a b st', st = .inr (.inl b) :: .inr (.inl a) :: st' ∧ f a b st' := by
  match st, h with
  | .inr (.inl b) :: .inr (.inl a) :: st', h => exact ⟨a, b, st', rfl, h⟩
theorem r1_spec {f : Nat → List AV → Prop} (h : r1 st f) : ∃ a st', st = .inr (.inr a) :: st' ∧ f a st' := by
  match st, h with
  | .inr (.inr a) :: st', h => exact ⟨a, st', rfl, h⟩
theorem ir_spec {f : Int → Nat → List AV → Prop} (h : ir st f) : ∃ i k st', st = .inl i :: .inr (.inr k) :: st' ∧ f i k st' := by
  match st, h with
  | .inl i :: .inr (.inr k) :: st', h => exact ⟨i, k, st', rfl, h⟩
theorem iir_spec {f : Int → Int → Nat → List AV → Prop} (h : iir st f) : ∃ x i k st', st = .inl x :: .inl i :: .inr (.inr k) :: st' ∧ f x i k st' := by
  match st, h with
  | .inl x :: .inl i :: .inr (.inr k) :: st', h => exact ⟨x, i, k, st', rfl, h⟩
theorem jir_spec {f : Int → Int → Nat → List AV → Prop} (h : jir st f) : ∃ x i k st', st = .inr (.inl x) :: .inl i :: .inr (.inr k) :: st' ∧ f x i k st' := by
  match st, h with
  | .inr (.inl x) :: .inl i :: .inr (.inr k) :: st', h => exact ⟨x, i, k, st', rfl, h⟩
theorem ok_iadd (hd : decode (mt m).2.1 pc = .ok (.iadd, 1)) (hn : HN wd d m (pc + 1) R nx) (hw : wpP wd R pc L st h nx jp .iadd) : At wd d m pc L st h R := by
  obtain ⟨a, b, st', e, h1, h2⟩ := p2_spec hw
  exact ok_b (f := fun a b => a + b) (op := fun x y => x + y) e (fun _ _ => h1) (fun _ _ => (Int32.ofInt_add a b).symm) (fun p l e s mi args below meth c H locs ls Q rest x y hx hb _ _ _ _ kk => lv_iadd hx hb hd kk) hn (fun _ _ => h2)
theorem ok_isub (hd : decode (mt m).2.1 pc = .ok (.isub, 1)) (hn : HN wd d m (pc + 1) R nx) (hw : wpP wd R pc L st h nx jp .isub) : At wd d m pc L st h R := by
  obtain ⟨a, b, st', e, h1, h2⟩ := p2_spec hw
  exact ok_b (f := fun a b => a - b) (op := fun x y => x - y) e (fun _ _ => h1) (fun _ _ => (Int32.ofInt_sub a b).symm) (fun p l e s mi args below meth c H locs ls Q rest x y hx hb _ _ _ _ kk => lv_isub hx hb hd kk) hn (fun _ _ => h2)
theorem ok_imul (hd : decode (mt m).2.1 pc = .ok (.imul, 1)) (hn : HN wd d m (pc + 1) R nx) (hw : wpP wd R pc L st h nx jp .imul) : At wd d m pc L st h R := by
  obtain ⟨a, b, st', e, h1, h2⟩ := p2_spec hw
  exact ok_b (f := fun a b => a * b) (op := fun x y => x * y) e (fun _ _ => h1) (fun _ _ => (Int32.ofInt_mul a b).symm) (fun p l e s mi args below meth c H locs ls Q rest x y hx hb _ _ _ _ kk => lv_imul hx hb hd kk) hn (fun _ _ => h2)
theorem ok_iand (hd : decode (mt m).2.1 pc = .ok (.iand, 1)) (hn : HN wd d m (pc + 1) R nx) (hw : wpP wd R pc L st h nx jp .iand) : At wd d m pc L st h R := by
  obtain ⟨a, b, st', e, h2⟩ := p2_spec hw
  exact ok_b (f := andI) (op := fun x y => x &&& y) e (fun _ _ => andIR a b) (fun _ _ => (i32o _).symm) (fun p l e s mi args below meth c H locs ls Q rest x y hx hb _ _ _ _ kk => lv_iand hx hb hd kk) hn (fun _ _ => h2)
theorem ok_ior (hd : decode (mt m).2.1 pc = .ok (.ior, 1)) (hn : HN wd d m (pc + 1) R nx) (hw : wpP wd R pc L st h nx jp .ior) : At wd d m pc L st h R := by
  obtain ⟨a, b, st', e, h2⟩ := p2_spec hw
  exact ok_b (f := orI) (op := fun x y => x ||| y) e (fun _ _ => orIR a b) (fun _ _ => (i32o _).symm) (fun p l e s mi args below meth c H locs ls Q rest x y hx hb _ _ _ _ kk => lv_ior hx hb hd kk) hn (fun _ _ => h2)
theorem ok_ishl (hd : decode (mt m).2.1 pc = .ok (.ishl, 1)) (hn : HN wd d m (pc + 1) R nx) (hw : wpP wd R pc L st h nx jp .ishl) : At wd d m pc L st h R := by
  obtain ⟨a, b, st', e, h2⟩ := p2_spec hw
  exact ok_b (f := shlI) (op := fun x y => x <<< (y &&& 31)) e (fun _ _ => shlIR a b) (fun _ _ => (i32o _).symm) (fun p l e s mi args below meth c H locs ls Q rest x y hx hb _ _ _ _ kk => lv_ishl hx hb hd kk) hn (fun _ _ => h2)
theorem ok_ishr (hd : decode (mt m).2.1 pc = .ok (.ishr, 1)) (hn : HN wd d m (pc + 1) R nx) (hw : wpP wd R pc L st h nx jp .ishr) : At wd d m pc L st h R := by
  obtain ⟨a, b, st', e, h2⟩ := p2_spec hw
  exact ok_b (f := shrI) (op := fun x y => x >>> (y &&& 31)) e (fun _ _ => shrIR a b) (fun _ _ => (i32o _).symm) (fun p l e s mi args below meth c H locs ls Q rest x y hx hb _ _ _ _ kk => lv_ishr hx hb hd kk) hn (fun _ _ => h2)
theorem ok_idiv (hd : decode (mt m).2.1 pc = .ok (.idiv, 1)) (hn : HN wd d m (pc + 1) R nx) (hw : wpP wd R pc L st h nx jp .idiv) : At wd d m pc L st h R := by
  obtain ⟨a, b, st', e, ⟨h0, h1⟩, h2⟩ := p2_spec hw
  exact ok_b (f := fun a b => a.tdiv b) (op := fun x y => x / y) e (fun _ _ => h1) (fun ha hb => i32div ha hb h1) (fun p l e s mi args below meth c H locs ls Q rest x y hx hb' _ hb _ ey kk => lv_idiv hx hb' hd (by rw [ey, i32z, i32eq hb inR0]; exact h0) kk) hn (fun _ _ => h2)
theorem ok_irem (hd : decode (mt m).2.1 pc = .ok (.irem, 1)) (hn : HN wd d m (pc + 1) R nx) (hw : wpP wd R pc L st h nx jp .irem) : At wd d m pc L st h R := by
  obtain ⟨a, b, st', e, h0, h2⟩ := p2_spec hw
  exact ok_b (f := fun a b => a.tmod b) (op := fun x y => x - x / y * y) e (fun ha hb => tmodR ha hb h0) (fun ha hb => i32rem ha hb h0) (fun p l e s mi args below meth c H locs ls Q rest x y hx hb' _ hb _ ey kk => lv_irem hx hb' hd (by rw [ey, i32z, i32eq hb inR0]; exact h0) kk) hn (fun _ _ => h2)
theorem ok_ladd (hd : decode (mt m).2.1 pc = .ok (.ladd, 1)) (hn : HN wd d m (pc + 1) R nx) (hw : wpP wd R pc L st h nx jp .ladd) : At wd d m pc L st h R := by
  obtain ⟨a, b, st', e, h1, h2⟩ := j2_spec hw
  exact ok_jb (f := fun a b => a + b) (op := fun x y => x + y) e (fun _ _ => h1) (fun _ _ => (Int64.ofInt_add a b).symm) (fun p l e s mi args below meth c H locs ls Q rest x y hx hb _ _ _ _ kk => lv_ladd hx hb hd kk) hn (fun _ _ => h2)
theorem ok_lsub (hd : decode (mt m).2.1 pc = .ok (.lsub, 1)) (hn : HN wd d m (pc + 1) R nx) (hw : wpP wd R pc L st h nx jp .lsub) : At wd d m pc L st h R := by
  obtain ⟨a, b, st', e, h1, h2⟩ := j2_spec hw
  exact ok_jb (f := fun a b => a - b) (op := fun x y => x - y) e (fun _ _ => h1) (fun _ _ => (Int64.ofInt_sub a b).symm) (fun p l e s mi args below meth c H locs ls Q rest x y hx hb _ _ _ _ kk => lv_lsub hx hb hd kk) hn (fun _ _ => h2)
theorem ok_lmul (hd : decode (mt m).2.1 pc = .ok (.lmul, 1)) (hn : HN wd d m (pc + 1) R nx) (hw : wpP wd R pc L st h nx jp .lmul) : At wd d m pc L st h R := by
  obtain ⟨a, b, st', e, h1, h2⟩ := j2_spec hw
  exact ok_jb (f := fun a b => a * b) (op := fun x y => x * y) e (fun _ _ => h1) (fun _ _ => (Int64.ofInt_mul a b).symm) (fun p l e s mi args below meth c H locs ls Q rest x y hx hb _ _ _ _ kk => lv_lmul hx hb hd kk) hn (fun _ _ => h2)
theorem ok_land (hd : decode (mt m).2.1 pc = .ok (.land, 1)) (hn : HN wd d m (pc + 1) R nx) (hw : wpP wd R pc L st h nx jp .land) : At wd d m pc L st h R := by
  obtain ⟨a, b, st', e, h2⟩ := j2_spec hw
  exact ok_jb (f := andJ) (op := fun x y => x &&& y) e (fun _ _ => andJR a b) (fun _ _ => (i64o _).symm) (fun p l e s mi args below meth c H locs ls Q rest x y hx hb _ _ _ _ kk => lv_land hx hb hd kk) hn (fun _ _ => h2)
theorem ok_lor (hd : decode (mt m).2.1 pc = .ok (.lor, 1)) (hn : HN wd d m (pc + 1) R nx) (hw : wpP wd R pc L st h nx jp .lor) : At wd d m pc L st h R := by
  obtain ⟨a, b, st', e, h2⟩ := j2_spec hw
  exact ok_jb (f := orJ) (op := fun x y => x ||| y) e (fun _ _ => orJR a b) (fun _ _ => (i64o _).symm) (fun p l e s mi args below meth c H locs ls Q rest x y hx hb _ _ _ _ kk => lv_lor hx hb hd kk) hn (fun _ _ => h2)
theorem ok_ldiv (hd : decode (mt m).2.1 pc = .ok (.ldiv, 1)) (hn : HN wd d m (pc + 1) R nx) (hw : wpP wd R pc L st h nx jp .ldiv) : At wd d m pc L st h R := by
  obtain ⟨a, b, st', e, ⟨h0, h1⟩, h2⟩ := j2_spec hw
  exact ok_jb (f := fun a b => a.tdiv b) (op := fun x y => x / y) e (fun _ _ => h1) (fun ha hb => i64div ha hb h1) (fun p l e s mi args below meth c H locs ls Q rest x y hx hb' _ hb _ ey kk => lv_ldiv hx hb' hd (by rw [ey, i64z, i64eq hb inJ0]; exact h0) kk) hn (fun _ _ => h2)
theorem ok_lrem (hd : decode (mt m).2.1 pc = .ok (.lrem, 1)) (hn : HN wd d m (pc + 1) R nx) (hw : wpP wd R pc L st h nx jp .lrem) : At wd d m pc L st h R := by
  obtain ⟨a, b, st', e, h0, h2⟩ := j2_spec hw
  exact ok_jb (f := fun a b => a.tmod b) (op := fun x y => x - x / y * y) e (fun ha hb => tmodJ ha hb h0) (fun ha hb => i64rem ha hb h0) (fun p l e s mi args below meth c H locs ls Q rest x y hx hb' _ hb _ ey kk => lv_lrem hx hb' hd (by rw [ey, i64z, i64eq hb inJ0]; exact h0) kk) hn (fun _ _ => h2)
theorem ok_lcmp (hd : decode (mt m).2.1 pc = .ok (.lcmp, 1)) (hn : HN wd d m (pc + 1) R nx) (hw : wpP wd R pc L st h nx jp .lcmp) : At wd d m pc L st h R := by
  obtain ⟨a, b, st', e, h2⟩ := j2_spec hw
  subst e
  refine At.go (pc' := pc + 1) (st' := .inl (cmpJ a b) :: st') ?_ (fun hs _ => hs.tl.tl.cons (cmpJR a b)) (hn _ _ _ h2)
  intro p l e s mi args below meth c ad H locs ls Q hx hb hs hL hlv kk
  refine W.lcmp hx hb hd ?_
  rw [cmpJv hs.tl.hd hs.hd]
  exact kk
theorem ok_lshl (hd : decode (mt m).2.1 pc = .ok (.lshl, 1)) (hn : HN wd d m (pc + 1) R nx) (hw : wpP wd R pc L st h nx jp .lshl) : At wd d m pc L st h R := by
  match st, hw with
  | .inl b :: .inr (.inl a) :: st', hw =>
    refine At.go (pc' := pc + 1) (st' := .inr (.inl (shlJ a b)) :: st') ?_ (fun hs _ => hs.tl.tl.cons (shlJR a b)) (hn _ _ _ hw)
    intro p l e s mi args below meth c ad H locs ls Q hx hb hs hL hlv kk
    exact lv_lshl hx hb hd (v := Int64.ofInt (shlJ a b)) (i64o _).symm kk
theorem ok_lshr (hd : decode (mt m).2.1 pc = .ok (.lshr, 1)) (hn : HN wd d m (pc + 1) R nx) (hw : wpP wd R pc L st h nx jp .lshr) : At wd d m pc L st h R := by
  match st, hw with
  | .inl b :: .inr (.inl a) :: st', hw =>
    refine At.go (pc' := pc + 1) (st' := .inr (.inl (shrJ a b)) :: st') ?_ (fun hs _ => hs.tl.tl.cons (shrJR a b)) (hn _ _ _ hw)
    intro p l e s mi args below meth c ad H locs ls Q hx hb hs hL hlv kk
    exact lv_lshr hx hb hd (v := Int64.ofInt (shrJ a b)) (i64o _).symm kk
theorem ok_ineg (hd : decode (mt m).2.1 pc = .ok (.ineg, 1)) (hn : HN wd d m (pc + 1) R nx) (hw : wpP wd R pc L st h nx jp .ineg) : At wd d m pc L st h R := by
  obtain ⟨a, st', e, h1, h2⟩ := p1_spec hw
  subst e
  refine At.go (pc' := pc + 1) (st' := .inl (-a) :: st') ?_ (fun hs _ => hs.tl.cons (v := .inl (-a)) h1) (hn _ _ _ h2)
  intro p l e s mi args below meth c ad H locs ls Q hx hb hs hL hlv kk
  refine lv_ineg hx hb hd ?_
  rw [← Int32.ofInt_neg]
  exact kk
theorem ok_i2l (hd : decode (mt m).2.1 pc = .ok (.i2l, 1)) (hn : HN wd d m (pc + 1) R nx) (hw : wpP wd R pc L st h nx jp .i2l) : At wd d m pc L st h R := by
  obtain ⟨a, st', e, h2⟩ := p1_spec hw
  subst e
  refine At.go (pc' := pc + 1) (st' := .inr (.inl a) :: st') ?_ (fun hs _ => hs.tl.cons (v := .inr (.inl a)) (by have := hs.hd; simp only [okV] at this ⊢; constructor <;> omega)) (hn _ _ _ h2)
  intro p l e s mi args below meth c ad H locs ls Q hx hb hs hL hlv kk
  have hr : inR a := hs.hd
  exact lv_i2l hx hb hd (v := Int64.ofInt a) (by rw [← Int64.toInt_inj, Int32.toInt_toInt64, i32t hr, i64t (by constructor <;> omega)]) kk
theorem ok_l2i (hd : decode (mt m).2.1 pc = .ok (.l2i, 1)) (hn : HN wd d m (pc + 1) R nx) (hw : wpP wd R pc L st h nx jp .l2i) : At wd d m pc L st h R := by
  obtain ⟨a, st', e, h1, h2⟩ := j1_spec hw
  subst e
  refine At.go (pc' := pc + 1) (st' := .inl a :: st') ?_ (fun hs _ => hs.tl.cons (v := .inl a) h1) (hn _ _ _ h2)
  intro p l e s mi args below meth c ad H locs ls Q hx hb hs hL hlv kk
  exact lv_l2i hx hb hd (v := Int32.ofInt a) (by rw [← Int32.toInt_inj, Int64.toInt_toInt32, i64t (by constructor <;> omega), i32t h1]; exact Int.bmod_eq_of_le (by simp; omega) (by simp; omega)) kk
theorem ok_i2c (hd : decode (mt m).2.1 pc = .ok (.i2c, 1)) (hn : HN wd d m (pc + 1) R nx) (hw : wpP wd R pc L st h nx jp .i2c) : At wd d m pc L st h R := by
  obtain ⟨a, st', e, h1, h2⟩ := p1_spec hw
  subst e
  refine At.go (pc' := pc + 1) (st' := .inl a :: st') ?_ (fun hs _ => hs) (hn _ _ _ h2)
  intro p l e s mi args below meth c ad H locs ls Q hx hb hs hL hlv kk
  have e1 : Int32.ofInt a = nI a.toNat := by
    rw [← Int32.toInt_inj, i32t (by constructor <;> omega), nI_toInt (by omega)]
    omega
  refine lv_i2c hx hb hd (v := Int32.ofInt a) ?_ kk
  rw [pk_char, e1, pk_tn (by omega)]
  congr 1
  omega
theorem ok_dup (hd : decode (mt m).2.1 pc = .ok (.dup, 1)) (hn : HN wd d m (pc + 1) R nx) (hw : wpP wd R pc L st h nx jp .dup) : At wd d m pc L st h R := by
  match st, hw with
  | .inl z :: st', hw => exact At.go (pc' := pc + 1) (st' := .inl z :: .inl z :: st') (fun p l e s mi args below meth c ad H locs ls Q hx hb hs hL hlv kk => lv_dup hx hb hd rfl kk) (fun hs _ => hs.cons hs.hd) (hn _ _ _ hw)
  | .inr (.inr z) :: st', hw => exact At.go (pc' := pc + 1) (st' := .inr (.inr z) :: .inr (.inr z) :: st') (fun p l e s mi args below meth c ad H locs ls Q hx hb hs hL hlv kk => lv_dup hx hb hd rfl kk) (fun hs _ => hs.cons hs.hd) (hn _ _ _ hw)
theorem ok_dup2 (hd : decode (mt m).2.1 pc = .ok (.dup2, 1)) (hn : HN wd d m (pc + 1) R nx) (hw : wpP wd R pc L st h nx jp .dup2) : At wd d m pc L st h R := by
  match st, hw with
  | .inl z :: .inr (.inr y) :: st', hw => exact At.go (pc' := pc + 1) (st' := .inl z :: .inr (.inr y) :: .inl z :: .inr (.inr y) :: st') (fun p l e s mi args below meth c ad H locs ls Q hx hb hs hL hlv kk => lv_dup2_11 hx hb hd rfl rfl kk) (fun hs _ => (hs.cons hs.tl.hd).cons hs.hd) (hn _ _ _ hw)
end OKI2
end
section
section OKC
variable {wd : WD} {d m pc pc' len : Nat} {R : AR} {L : AL} {st st' : List AV} {h : AH} {nx : AL → List AV → AH → Prop} {jp : Nat → AL → List AV → AH → Prop}
abbrev HJ (wd : WD) (d m : Nat) (R : AR) (jp : Nat → AL → List AV → AH → Prop) : Prop := ∀ t L' st' h', jp t L' st' h' → At wd d m t L' st' h' R
theorem toNat_of {pc : Nat} {o : Int} (h : 0 ≤ (pc : Int) + o) : (pc : Int) + o = ((((pc : Int) + o).toNat : Nat) : Int) := by omega
theorem ok_goto {o : Int} (hd : decode (mt m).2.1 pc = .ok (.goto o, 3)) (h0 : 0 ≤ (pc : Int) + o) (hj : HJ wd d m R jp) (hw : wpP wd R pc L st h nx jp (.goto o)) : At wd d m pc L st h R :=
  At.go (st' := st) (fun p l e s mi args below meth c ad H locs ls Q hx hb hs hL hlv kk => lv_goto hx hb hd (toNat_of h0) kk) (fun hs _ => hs) (hj _ _ _ _ hw)
theorem ok_if_icmp {cc : ClassFile.Cond} {o : Int} (hd : decode (mt m).2.1 pc = .ok (.if_icmp cc o, 3)) (h0 : 0 ≤ (pc : Int) + o) (hn : HN wd d m (pc + 3) R nx) (hj : HJ wd d m R jp) (hw : wpP wd R pc L st h nx jp (.if_icmp cc o)) : At wd d m pc L st h R := by
  obtain ⟨a, b, st', e, h1, h2⟩ := p2_spec hw
  subst e
  intro p l e s mi args below meth c D aT ad A H locs ls C hP hD hS hH hL hs hlv
  have hb : inR b := hs.hd
  have ha : inR a := hs.tl.hd
  have kt := fun q => hj _ _ _ _ (h1 q) p l e s mi args below meth c D aT ad A H locs ls C hP hD hS hH hL hs.tl.tl hlv
  have kf := fun q => hn _ _ _ (h2 q) p l e s mi args below meth c D aT ad A H locs ls C hP hD hS hH hL hs.tl.tl hlv
  cases cc with
  | eq => exact lv_icmp_eq C.1 C.2.1 hd (toNat_of h0) (fun q => kt ((i32eq ha hb).mp q)) (fun q => kf (fun z => q ((i32eq ha hb).mpr z)))
  | ne => exact lv_icmp_ne C.1 C.2.1 hd (toNat_of h0) (fun q => kt (fun z => q ((i32eq ha hb).mpr z))) (fun q => kf (fun z => z ((i32eq ha hb).mp q)))
  | lt => exact lv_icmp_lt C.1 C.2.1 hd (toNat_of h0) (fun q => kt ((i32lt ha hb).mp q)) (fun q => kf (fun z => q ((i32lt ha hb).mpr z)))
  | ge => exact lv_icmp_ge C.1 C.2.1 hd (toNat_of h0) (fun q => kt ((i32le hb ha).mp q)) (fun q => kf (fun z => q ((i32le hb ha).mpr z)))
  | gt => exact lv_icmp_gt C.1 C.2.1 hd (toNat_of h0) (fun q => kt ((i32lt hb ha).mp q)) (fun q => kf (fun z => q ((i32lt hb ha).mpr z)))
  | le => exact lv_icmp_le C.1 C.2.1 hd (toNat_of h0) (fun q => kt ((i32le ha hb).mp q)) (fun q => kf (fun z => q ((i32le ha hb).mpr z)))
theorem ok_ifCond {cc : ClassFile.Cond} {o : Int} (hd : decode (mt m).2.1 pc = .ok (.ifCond cc o, 3)) (h0 : 0 ≤ (pc : Int) + o) (hn : HN wd d m (pc + 3) R nx) (hj : HJ wd d m R jp) (hw : wpP wd R pc L st h nx jp (.ifCond cc o)) : At wd d m pc L st h R := by
  obtain ⟨a, st', e, h1, h2⟩ := p1_spec hw
  subst e
  intro p l e s mi args below meth c D aT ad A H locs ls C hP hD hS hH hL hs hlv
  have ha : inR a := hs.hd
  have hb := inR0
  have kt := fun q => hj _ _ _ _ (h1 q) p l e s mi args below meth c D aT ad A H locs ls C hP hD hS hH hL hs.tl hlv
  have kf := fun q => hn _ _ _ (h2 q) p l e s mi args below meth c D aT ad A H locs ls C hP hD hS hH hL hs.tl hlv
  cases cc with
  | eq => exact lv_if_eq C.1 C.2.1 hd (toNat_of h0) (fun q => kt ((i32eq ha hb).mp q)) (fun q => kf (fun z => q ((i32eq ha hb).mpr z)))
  | ne => exact lv_if_ne C.1 C.2.1 hd (toNat_of h0) (fun q => kt (fun z => q ((i32eq ha hb).mpr z))) (fun q => kf (fun z => z ((i32eq ha hb).mp q)))
  | lt => exact lv_if_lt C.1 C.2.1 hd (toNat_of h0) (fun q => kt ((i32lt ha hb).mp q)) (fun q => kf (fun z => q ((i32lt ha hb).mpr z)))
  | ge => exact lv_if_ge C.1 C.2.1 hd (toNat_of h0) (fun q => kt ((i32le hb ha).mp q)) (fun q => kf (fun z => q ((i32le hb ha).mpr z)))
  | gt => exact lv_if_gt C.1 C.2.1 hd (toNat_of h0) (fun q => kt ((i32lt hb ha).mp q)) (fun q => kf (fun z => q ((i32lt hb ha).mpr z)))
  | le => exact lv_if_le C.1 C.2.1 hd (toNat_of h0) (fun q => kt ((i32le ha hb).mp q)) (fun q => kf (fun z => q ((i32le ha hb).mpr z)))
theorem swT_at {pc : Nat} {z : Int} {f : Nat → Prop} : ∀ (os : List Int) (k : Int), swT pc z f k os → ∀ j : Nat, z = k + (j : Int) → ∀ o, os[j]? = some o → f ((pc : Int) + o).toNat
  | [], _, _, j, _, o, h => by simp at h
  | q :: os, k, ⟨h1, h2⟩, 0, e, o, h => by
    cases h
    exact h1 (by omega)
  | q :: os, k, ⟨h1, h2⟩, j + 1, e, o, h => swT_at os (k + 1) h2 j (by omega) o h
theorem ok_tableswitch {dt lo hi : Int} {os : Array Int} (hd : decode (mt m).2.1 pc = .ok (.tableswitch dt lo hi os, len)) (h0 : 0 ≤ (pc : Int) + dt) (h1 : ∀ o ∈ os.toList, 0 ≤ (pc : Int) + o) (hl : hi - lo < (os.toList.length : Int)) (hj : HJ wd d m R jp) (hw : wpP wd R pc L st h nx jp (.tableswitch dt lo hi os)) : At wd d m pc L st h R := by
  obtain ⟨z, st', e, hw1, hw2⟩ := p1_spec hw
  subst e
  intro p l e s mi args below meth c D aT ad A H locs ls C hP hD hS hH hL hs hlv
  have hz : inR z := hs.hd
  have et := i32t hz
  by_cases c1 : z < lo ∨ hi < z
  · exact lv_tableOut C.1 C.2.1 hd (by rw [et]; exact c1) (toNat_of h0) (hj _ _ _ _ (hw1 c1) p l e s mi args below meth c D aT ad A H locs ls C hP hD hS hH hL hs.tl hlv)
  · have hlt : (z - lo).toNat < os.toList.length := by omega
    obtain ⟨o, ho⟩ : ∃ o, os.toList[(z - lo).toNat]? = some o := ⟨_, List.getElem?_eq_getElem hlt⟩
    have hm : o ∈ os.toList := List.mem_of_getElem? ho
    exact lv_tableIn C.1 C.2.1 hd (by rw [et]; omega) (by rw [et]; omega) (off := o) (by rw [et, ← Array.getElem?_toList]; exact ho) (toNat_of (h1 o hm)) (hj _ _ _ _ (swT_at os.toList lo hw2 (z - lo).toNat (by omega) o ho) p l e s mi args below meth c D aT ad A H locs ls C hP hD hS hH hL hs.tl hlv)
theorem swL_at {pc : Nat} {z dt : Int} {f : Nat → Prop} : ∀ ps : List (Int × Int), swL pc z f dt ps → f ((pc : Int) + Op.lookupswitch.offset ps dt z).toNat
  | [], h => h
  | q :: ps, ⟨h1, h2⟩ => by
    by_cases e : z = q.1
    · have := h1 e
      simp only [Op.lookupswitch.offset, e] at *
      simpa using this
    · have := swL_at ps (h2 e)
      simp only [Op.lookupswitch.offset] at *
      first
        | (rw [if_neg (by simpa using Ne.symm e)]; exact this)
        | (rw [if_neg (by simpa using e)]; exact this)
        | (simpa [List.find?, Ne.symm e, e] using this)
theorem ok_lookupswitch {dt : Int} {ps : Array (Int × Int)} (hd : decode (mt m).2.1 pc = .ok (.lookupswitch dt ps, len)) (hp : (ps.toList.zip (ps.toList.drop 1)).all (fun (a, next) => a.1 < next.1) = true) (h0 : ∀ z : Int, 0 ≤ (pc : Int) + Op.lookupswitch.offset ps.toList dt z) (hj : HJ wd d m R jp) (hw : wpP wd R pc L st h nx jp (.lookupswitch dt ps)) : At wd d m pc L st h R := by
  obtain ⟨z, st', e, hw1⟩ := p1_spec hw
  subst e
  intro p l e s mi args below meth c D aT ad A H locs ls C hP hD hS hH hL hs hlv
  have hz : inR z := hs.hd
  exact lv_lookup C.1 C.2.1 hd hp (by rw [i32t hz]) (toNat_of (h0 z)) (hj _ _ _ _ (swL_at (f := fun t => jp t L st' h) ps.toList hw1) p l e s mi args below meth c D aT ad A H locs ls C hP hD hS hH hL hs.tl hlv)
theorem Qr_of {wd : WD} {D : va_G} {aT : Nat → ClassId} {ad : Nat → Nat} {A : Nat → Prop} {R : AR} {args : Array Value} {s t : State} {H : Heap} {locs : List Loc} {o : Option AV} {h : AH} (ht : t.heap = H) (hW : s.WarmedH t.vm) (hK : va_K D vwCl (tyA aT) s) (hP : va_P D vwCl (wsO wd aT ad h) H) (hD : va_D A (wsO wd aT ad h)) (hS : va_S A s.heap H locs) (hH : okH wd h) (ho : ∀ v, o = some v → okV v) (hR : R o h) : Qr wd D aT ad A R args s (.returned (o.map (cv ad))) t :=
  ⟨⟨o, h, rfl, hR, ho, by rw [ht]; exact hP, va_K.moved hW.alike hK, hD, hH⟩, hS.F ht⟩
theorem ok_ireturn (hd : decode (mt m).2.1 pc = .ok (.ireturn, 1)) (hrt : (mt m).2.2.2 = some .int) (hw : wpP wd R pc L st h nx jp .ireturn) : At wd d m pc L st h R := by
  match st, hw with
  | [.inl z], hw =>
    intro p l e s mi args below meth c D aT ad A H locs ls C hP hD hS hH hL hs hlv
    obtain ⟨hx, hb, hr, hml, hown, hts, hlk, hA, hK, hSt⟩ := C
    exact W.iret hx hb (by rw [hr, hrt]) (fun t ht hW => Qr_of (o := some (.inl z)) ht hW hK hP hD hS hH (fun v e => by cases e; exact hs.hd) hw) hS.2.2 hd (hlocks := hlk)
theorem ok_zreturn {ty : FieldType} (hd : decode (mt m).2.1 pc = .ok (.ireturn, 1)) (hrt : (mt m).2.2.2 = some .boolean) {q : Nat × Nat × Nat × Nat × Int} {call : Nat → List AV → AH → AR → Prop} (hw : wpX wd call R L st h nx (11, q)) : At wd d m pc L st h R := by
  match st, hw with
  | [.inl z], hw =>
    intro p l e s mi args below meth c D aT ad A H locs ls C hP hD hS hH hL hs hlv
    obtain ⟨hx, hb, hr, hml, hown, hts, hlk, hA, hK, hSt⟩ := C
    have hw := zok_spec hw
    exact W.zret hx hb (by rw [hr, hrt]) (by rcases hw.1 with rfl | rfl <;> rfl) (fun t ht hW => Qr_of (o := some (.inl z)) ht hW hK hP hD hS hH (fun v e => by cases e; exact hs.hd) hw.2) hS.2.2 hd (hlocks := hlk)
theorem ok_lreturn (hd : decode (mt m).2.1 pc = .ok (.lreturn, 1)) (hrt : (mt m).2.2.2 = some .long) (hw : wpP wd R pc L st h nx jp .lreturn) : At wd d m pc L st h R := by
  match st, hw with
  | [.inr (.inl z)], hw =>
    intro p l e s mi args below meth c D aT ad A H locs ls C hP hD hS hH hL hs hlv
    obtain ⟨hx, hb, hr, hml, hown, hts, hlk, hA, hK, hSt⟩ := C
    exact W.lret hx hb (by rw [hr, hrt]) (fun t ht hW => Qr_of (o := some (.inr (.inl z))) ht hW hK hP hD hS hH (fun v e => by cases e; exact hs.hd) hw) hS.2.2 hd (hlocks := hlk)
theorem ok_areturn (hd : decode (mt m).2.1 pc = .ok (.areturn, 1)) {n : String} (hrt : (mt m).2.2.2 = some (.object n)) (hw : wpP wd R pc L st h nx jp .areturn) : At wd d m pc L st h R := by
  match st, hw with
  | [.inr (.inr z)], hw =>
    intro p l e s mi args below meth c D aT ad A H locs ls C hP hD hS hH hL hs hlv
    obtain ⟨hx, hb, hr, hml, hown, hts, hlk, hA, hK, hSt⟩ := C
    exact W.aret hx hb (by rw [hr, hrt]) (Or.inl ⟨_, rfl⟩) (Or.inr ⟨_, rfl⟩) (fun t ht hW => Qr_of (o := some (.inr (.inr z))) ht hW hK hP hD hS hH (fun v e => by cases e; exact hs.hd) hw) hS.2.2 hd (hlocks := hlk)
theorem ok_return (hd : decode (mt m).2.1 pc = .ok (.return_, 1)) (hrt : (mt m).2.2.2 = none) (hw : wpP wd R pc L st h nx jp .return_) : At wd d m pc L st h R := by
  match st, hw with
  | [], hw =>
    intro p l e s mi args below meth c D aT ad A H locs ls C hP hD hS hH hL hs hlv
    obtain ⟨hx, hb, hr, hml, hown, hts, hlk, hA, hK, hSt⟩ := C
    exact W.vret hx hb (by rw [hr, hrt]) (fun t ht hW => Qr_of (o := none) ht hW hK hP hD hS hH (fun v e => by cases e) hw) hS.2.2 hd (hlocks := hlk)
end OKC
end
section
section OKA
variable {wd : WD} {d m pc pc' len : Nat} {R : AR} {L : AL} {st st' : List AV} {h : AH} {nx : AL → List AV → AH → Prop} {jp : Nat → AL → List AV → AH → Prop}
theorem celI {aT : Nat → ClassId} {ad : Nat → Nat} {k ty : Nat} (h : AH) (hb : isAb wd k ty = true) (h1 : ty ≠ 1) : (wsO wd aT ad h)[k]? = some (ad k, .inl (aT ty, (wd.2.1 k).2.2, .inl fun i => Int32.ofInt (h.2 k i))) := by
  obtain ⟨a, b, c⟩ := cel_arr (aT := aT) (ad := ad) (h := h) hb
  rw [wsO_get a, c, if_neg h1]
theorem celJ {aT : Nat → ClassId} {ad : Nat → Nat} {k : Nat} (h : AH) (hb : isAb wd k 1 = true) : (wsO wd aT ad h)[k]? = some (ad k, .inl (aT 1, (wd.2.1 k).2.2, .inr (.inl fun i => Int64.ofInt (h.2 k i)))) := by
  obtain ⟨a, b, c⟩ := cel_arr (aT := aT) (ad := ad) (h := h) hb
  rw [wsO_get a, c, if_pos rfl]
theorem cel_pA {aT : Nat → ClassId} {ad : Nat → Nat} {k i j : Nat} {z : Int} (e : j ≠ k) : cel wd aT ad (pA h k i z) j = cel wd aT ad h j := by
  have h1 : (fun q => (pA h k i z).2 j q) = fun q => h.2 j q := by
    funext q
    show (if j = k ∧ q = i then z else h.2 j q) = _
    rw [if_neg (fun x => e x.1)]
  have h2 : ∀ q, (pA h k i z).2 j q = h.2 j q := fun q => congrFun h1 q
  unfold cel
  simp only [h2]
  rfl
theorem setI {aT : Nat → ClassId} {ad : Nat → Nat} {k ty i : Nat} {z : Int} (hb : isAb wd k ty = true) (h1 : ty ≠ 1) : (wsO wd aT ad h).set k (ad k, .inl (aT ty, (wd.2.1 k).2.2, .inl (upd (fun i => Int32.ofInt (h.2 k i)) i (Int32.ofInt z)))) = wsO wd aT ad (pA h k i z) := by
  refine wsO_set ?_ (fun j e => cel_pA e)
  rw [(cel_arr hb).2.2, if_neg h1]
  congr 4
  funext q
  show Int32.ofInt (if k = k ∧ q = i then z else h.2 k q) = (if q = i then Int32.ofInt z else Int32.ofInt (h.2 k q))
  by_cases e : q = i <;> simp [e]
theorem setJ {aT : Nat → ClassId} {ad : Nat → Nat} {k i : Nat} {z : Int} (hb : isAb wd k 1 = true) : (wsO wd aT ad h).set k (ad k, .inl (aT 1, (wd.2.1 k).2.2, .inr (.inl (vp_updL (fun i => Int64.ofInt (h.2 k i)) i (Int64.ofInt z))))) = wsO wd aT ad (pA h k i z) := by
  refine wsO_set ?_ (fun j e => cel_pA e)
  rw [(cel_arr hb).2.2, if_pos rfl]
  congr 5
  funext q
  show Int64.ofInt (if k = k ∧ q = i then z else h.2 k q) = (if q = i then Int64.ofInt z else Int64.ofInt (h.2 k q))
  by_cases e : q = i <;> simp [e]
theorem okH_pA {k i : Nat} {z : Int} (hH : okH wd h) (hz : ((wd.2.1 k).2.1 = 1 → inJ z) ∧ ((wd.2.1 k).2.1 ≠ 1 → inR z)) : okH wd (pA h k i z) := by
  refine ⟨hH.1, fun a b => ?_⟩
  show ((wd.2.1 a).2.1 = 1 → inJ (if a = k ∧ b = i then z else h.2 a b)) ∧ ((wd.2.1 a).2.1 ≠ 1 → inR (if a = k ∧ b = i then z else h.2 a b))
  by_cases e : a = k ∧ b = i
  · rw [if_pos e, e.1]; exact hz
  · rw [if_neg e]; exact hH.2 a b
theorem tyA0 {aT : Nat → ClassId} : (tyA aT)[0]? = some (aT 0, .int) := rfl
theorem tyA1 {aT : Nat → ClassId} : (tyA aT)[1]? = some (aT 1, .long) := rfl
theorem tyA2 {aT : Nat → ClassId} : (tyA aT)[2]? = some (aT 2, .boolean) := rfl
theorem tyA3 {aT : Nat → ClassId} : (tyA aT)[3]? = some (aT 3, .char) := rfl
theorem isAb_ty {k ty : Nat} (hb : isAb wd k ty = true) : (wd.2.1 k).2.1 = ty := (cel_arr (aT := fun _ => (mt 0).2.2.1) (ad := id) (h := (fun _ _ => 0, fun _ _ => 0)) hb).2.1
theorem ok_iaload (hd : decode (mt m).2.1 pc = .ok (.iaload, 1)) (hn : HN wd d m (pc + 1) R nx) (hw : wpP wd R pc L st h nx jp .iaload) : At wd d m pc L st h R := by
  obtain ⟨i, k, st', e, hw⟩ := ir_spec hw
  obtain ⟨hb, ⟨i0, i1⟩, h2⟩ := ob_spec hw
  subst e
  intro p l e s mi args below meth c D aT ad A H locs ls C hP hD hS hH hL hs hlv
  have hi : inR i := hs.hd
  have hc := celI (aT := aT) (ad := ad) h hb (by decide)
  refine va_iald C.1 C.2.1 C.2.2.2.2.2.2.2.2.1 hP k 0 hc tyA0 (i32in hi i0 i1) hd ?_
  rw [i32cl hi]
  exact hn _ _ _ h2 p l e s mi args below meth c D aT ad A H locs ls C hP hD hS hH hL (hs.tl.tl.cons (v := .inl (h.2 k i.toNat)) ((hH.2 k _).2 (by rw [isAb_ty hb]; decide))) hlv
theorem ok_caload (hd : decode (mt m).2.1 pc = .ok (.caload, 1)) (hn : HN wd d m (pc + 1) R nx) (hw : wpP wd R pc L st h nx jp .caload) : At wd d m pc L st h R := by
  obtain ⟨i, k, st', e, hw⟩ := ir_spec hw
  obtain ⟨hb, ⟨i0, i1⟩, h2⟩ := ob_spec hw
  subst e
  intro p l e s mi args below meth c D aT ad A H locs ls C hP hD hS hH hL hs hlv
  have hi : inR i := hs.hd
  have hc := celI (aT := aT) (ad := ad) h hb (by decide)
  refine va_cald C.1 C.2.1 C.2.2.2.2.2.2.2.2.1 hP k 3 hc tyA3 (i32in hi i0 i1) hd ?_
  rw [i32cl hi]
  exact hn _ _ _ h2 p l e s mi args below meth c D aT ad A H locs ls C hP hD hS hH hL (hs.tl.tl.cons (v := .inl (h.2 k i.toNat)) ((hH.2 k _).2 (by rw [isAb_ty hb]; decide))) hlv
theorem ok_baload (hd : decode (mt m).2.1 pc = .ok (.baload, 1)) (hn : HN wd d m (pc + 1) R nx) (hw : wpP wd R pc L st h nx jp .baload) : At wd d m pc L st h R := by
  obtain ⟨i, k, st', e, hw⟩ := ir_spec hw
  obtain ⟨hb, ⟨i0, i1⟩, h2⟩ := ob_spec hw
  subst e
  intro p l e s mi args below meth c D aT ad A H locs ls C hP hD hS hH hL hs hlv
  have hi : inR i := hs.hd
  have hc := celI (aT := aT) (ad := ad) h hb (by decide)
  refine va_zald C.1 C.2.1 C.2.2.2.2.2.2.2.2.1 hP k 2 hc tyA2 (i32in hi i0 i1) hd ?_
  rw [i32cl hi]
  exact hn _ _ _ h2 p l e s mi args below meth c D aT ad A H locs ls C hP hD hS hH hL (hs.tl.tl.cons (v := .inl (h.2 k i.toNat)) ((hH.2 k _).2 (by rw [isAb_ty hb]; decide))) hlv
theorem ok_laload (hd : decode (mt m).2.1 pc = .ok (.laload, 1)) (hn : HN wd d m (pc + 1) R nx) (hw : wpP wd R pc L st h nx jp .laload) : At wd d m pc L st h R := by
  obtain ⟨i, k, st', e, hw⟩ := ir_spec hw
  obtain ⟨hb, ⟨i0, i1⟩, h2⟩ := ob_spec hw
  subst e
  intro p l e s mi args below meth c D aT ad A H locs ls C hP hD hS hH hL hs hlv
  have hi : inR i := hs.hd
  have hc := celJ (aT := aT) (ad := ad) h hb
  refine va_lald C.1 C.2.1 C.2.2.2.2.2.2.2.2.1 hP k 1 hc tyA1 (i32in hi i0 i1) hd ?_
  rw [i32cl hi]
  exact hn _ _ _ h2 p l e s mi args below meth c D aT ad A H locs ls C hP hD hS hH hL (hs.tl.tl.cons (v := .inr (.inl (h.2 k i.toNat))) ((hH.2 k _).1 (isAb_ty hb))) hlv
theorem ok_iastore (hd : decode (mt m).2.1 pc = .ok (.iastore, 1)) (hn : HN wd d m (pc + 1) R nx) (hw : wpP wd R pc L st h nx jp .iastore) : At wd d m pc L st h R := by
  obtain ⟨x, i, k, st', e, hw⟩ := iir_spec hw
  obtain ⟨hb, ⟨i0, i1⟩, h2⟩ := ob_spec hw
  subst e
  intro p l e s mi args below meth c D aT ad A H locs ls C hP hD hS hH hL hs hlv
  have hi : inR i := hs.tl.hd
  have hx : inR x := hs.hd
  have hc := celI (aT := aT) (ad := ad) h hb (by decide)
  refine va_iast C.1 C.2.1 C.2.2.2.2.2.2.2.2.1 hP hD hS k 0 hc tyA0 (i32in hi i0 i1) hd (fun H1 locs1 hP1 hD1 hS1 => ?_)
  rw [i32cl hi, setI hb (by decide)] at hP1 hD1
  exact hn _ _ _ h2 p l e s mi args below meth c D aT ad A H1 locs1 ls C hP1 hD1 hS1 (okH_pA hH ⟨fun q => absurd (isAb_ty hb) (by rw [q]; decide), fun _ => hx⟩) hL hs.tl.tl.tl hlv
theorem ok_lastore (hd : decode (mt m).2.1 pc = .ok (.lastore, 1)) (hn : HN wd d m (pc + 1) R nx) (hw : wpP wd R pc L st h nx jp .lastore) : At wd d m pc L st h R := by
  obtain ⟨x, i, k, st', e, hw⟩ := jir_spec hw
  obtain ⟨hb, ⟨i0, i1⟩, h2⟩ := ob_spec hw
  subst e
  intro p l e s mi args below meth c D aT ad A H locs ls C hP hD hS hH hL hs hlv
  have hi : inR i := hs.tl.hd
  have hx : inJ x := hs.hd
  have hc := celJ (aT := aT) (ad := ad) h hb
  refine va_last C.1 C.2.1 C.2.2.2.2.2.2.2.2.1 hP hD hS k 1 hc tyA1 (i32in hi i0 i1) hd (fun H1 locs1 hP1 hD1 hS1 => ?_)
  rw [i32cl hi, setJ hb] at hP1 hD1
  exact hn _ _ _ h2 p l e s mi args below meth c D aT ad A H1 locs1 ls C hP1 hD1 hS1 (okH_pA hH ⟨fun _ => hx, fun q => absurd (isAb_ty hb) q⟩) hL hs.tl.tl.tl hlv
theorem narZ {x : Int} (hx : x = 0 ∨ x = 1) : vp_nar .boolean (Int32.ofInt x) = Int32.ofInt x := by rcases hx with rfl | rfl <;> rfl
theorem narC {x : Int} (hx : 0 ≤ x ∧ x < 65536) : vp_nar .char (Int32.ofInt x) = Int32.ofInt x := by
  have e1 : Int32.ofInt x = nI x.toNat := by
    rw [← Int32.toInt_inj, i32t (by constructor <;> omega), nI_toInt (by omega)]
    omega
  rw [e1]
  unfold vp_nar
  rw [(pk_charN (q := x.toNat) (by omega)).1]
theorem ok_bastore (hd : decode (mt m).2.1 pc = .ok (.bastore, 1)) (hn : HN wd d m (pc + 1) R nx) (hw : wpP wd R pc L st h nx jp .bastore) : At wd d m pc L st h R := by
  obtain ⟨x, i, k, st', e, hw⟩ := iir_spec hw
  obtain ⟨hb, ⟨i0, i1⟩, h32⟩ := ob_spec hw
  obtain ⟨h3, h2⟩ := zok_spec h32
  subst e
  intro p l e s mi args below meth c D aT ad A H locs ls C hP hD hS hH hL hs hlv
  have hi : inR i := hs.tl.hd
  have hx : inR x := hs.hd
  have hc := celI (aT := aT) (ad := ad) h hb (by decide)
  refine va_zast C.1 C.2.1 C.2.2.2.2.2.2.2.2.1 hP hD hS k 2 hc tyA2 (i32in hi i0 i1) hd (fun H1 locs1 hP1 hD1 hS1 => ?_)
  rw [i32cl hi, narZ h3, setI hb (by decide)] at hP1 hD1
  exact hn _ _ _ h2 p l e s mi args below meth c D aT ad A H1 locs1 ls C hP1 hD1 hS1 (okH_pA hH ⟨fun q => absurd (isAb_ty hb) (by rw [q]; decide), fun _ => hx⟩) hL hs.tl.tl.tl hlv
theorem ok_castore (hd : decode (mt m).2.1 pc = .ok (.castore, 1)) (hn : HN wd d m (pc + 1) R nx) (hw : wpP wd R pc L st h nx jp .castore) : At wd d m pc L st h R := by
  obtain ⟨x, i, k, st', e, hw⟩ := iir_spec hw
  obtain ⟨hb, ⟨i0, i1⟩, h3, h2⟩ := ob_spec hw
  subst e
  intro p l e s mi args below meth c D aT ad A H locs ls C hP hD hS hH hL hs hlv
  have hi : inR i := hs.tl.hd
  have hx : inR x := hs.hd
  have hc := celI (aT := aT) (ad := ad) h hb (by decide)
  refine va_cast C.1 C.2.1 C.2.2.2.2.2.2.2.2.1 hP hD hS k 3 hc tyA3 (i32in hi i0 i1) hd (fun H1 locs1 hP1 hD1 hS1 => ?_)
  rw [i32cl hi, narC h3, setI hb (by decide)] at hP1 hD1
  exact hn _ _ _ h2 p l e s mi args below meth c D aT ad A H1 locs1 ls C hP1 hD1 hS1 (okH_pA hH ⟨fun q => absurd (isAb_ty hb) (by rw [q]; decide), fun _ => hx⟩) hL hs.tl.tl.tl hlv
end OKA
end
section
/-! fields -/
def lyP : List (List Nat) := [[1201, 1203, 1205, 1207, 1209, 1211, 1213, 1215, 1217, 1219, 1221],
  [1151, 1153, 1155, 1157, 1159, 1161, 1163, 1165, 1167, 1169, 1171, 1173, 1175, 1177, 1179],
  [1034, 1036],
  [1111, 1113, 1115, 1117, 1119, 1121, 1123, 1125],
  [1092, 1094, 1096, 1098, 1100],
  [1057, 1059, 1061, 1063, 1065],
  [1235, 1237, 1239, 2001, 2003, 2005, 2007, 2009, 2011, 2013, 2015],
  [5176, 5178, 5180, 5182, 5184, 5186, 5188, 5190, 5192, 5194, 5196, 5198, 5200, 5202, 5204, 5206, 5208, 5210, 5212, 5214, 5216, 5218, 5220, 5222, 5224, 5226, 5228, 5230, 5232, 5234, 5236, 5238, 6000, 6002, 6004, 6006, 6008, 6010, 6012, 6014, 6016, 6018, 6020, 6022, 6024, 6026, 6028, 6030, 6032, 6034, 6036, 6038, 6040, 6042, 6044, 6046]]
def clU (ci : Nat) : List Cond := u_ws (clA ci).1 (clA ci).2.1 (clA ci).2.2
theorem lyP_ok : (List.range 8).all (fun ci => decide ((lyP.getD ci []).map tg = (clU ci).map some) && (clU ci).all goodWord) = true := by decide +kernel
theorem clU_in {ci : Nat} (hc : ci < 8) : ∀ w ∈ clU ci, w ∈ tb := by
  have h := List.all_eq_true.mp lyP_ok ci (List.mem_range.mpr hc)
  simp only [Bool.and_eq_true, decide_eq_true_eq] at h
  intro w hw
  have h1 : some w ∈ (lyP.getD ci []).map tg := by rw [h.1]; exact List.mem_map.mpr ⟨w, hw, rfl⟩
  obtain ⟨p, -, hp⟩ := List.mem_map.mp h1
  exact tb_in hp (List.all_eq_true.mp h.2 w hw)
theorem clA_at {ci : Nat} (hc : ci < 8) : vwCl[ci]? = some ((clA ci).1, (clA ci).2.1, (clA ci).2.2) := by
  have hl : ci < vwCl.length := hc
  unfold clA
  rw [List.getD_eq_getElem?_getD, List.getElem?_eq_getElem hl]
  rfl
def tyC (ci k : Nat) : FieldType := (parseFieldDescriptor ((clA ci).2.1 k).2.2.1).getD .int
theorem tyC_all : (List.range 8).all (fun ci => (List.range (clA ci).2.2).all fun k => decide (parseFieldDescriptor ((clA ci).2.1 k).2.2.1 = some (tyC ci k))) = true := by decide +kernel
theorem tyC_ok {ci : Nat} (hc : ci < 8) : ∀ k, k < (clA ci).2.2 → parseFieldDescriptor ((clA ci).2.1 k).2.2.1 = some (tyC ci k) := by
  intro k hk
  have h := List.all_eq_true.mp (List.all_eq_true.mp tyC_all ci (List.mem_range.mpr hc)) k (List.mem_range.mpr hk)
  simpa using h
theorem nmC : ∀ ci, ci < 8 → ∀ a, a < (clA ci).2.2 → ∀ b, b < (clA ci).2.2 → a ≠ b → ((clA ci).2.1 a).2.1 ≠ ((clA ci).2.1 b).2.1
  | 0, _ => nmX1
  | 1, _ => nmX2
  | 2, _ => nmX3
  | 3, _ => nmX4
  | 4, _ => nmX5
  | 5, _ => nmX6
  | 6, _ => nmX7
  | 7, _ => nmX8
  | _ + 8, h => absurd h (by omega)
def fT (ci y : Nat) : String × String × String × Bool := (clA ci).2.1 y
def wF (own : String) (idx ci y : Nat) : Cond := .fieldLink own idx (fT ci y).1 (fT ci y).2.1 (fT ci y).2.2.1
def wFN (own : String) (idx ci y : Nat) : Cond := .fieldLinkNest own idx (fT ci y).1 (fT ci y).2.1 (fT ci y).2.2.1 "FormulaCode"
def ckF (own : String) (idx ci y w : Nat) : Bool := Nat.blt ci 8 && (Nat.blt y (clA ci).2.2 && (decide (tg w = some (wF own idx ci y)) || decide (tg w = some (wFN own idx ci y))))
theorem ckF_spec {own : String} {idx ci y w : Nat} (h : ckF own idx ci y w = true) : ci < 8 ∧ y < (clA ci).2.2 ∧ (wF own idx ci y ∈ tb ∨ wFN own idx ci y ∈ nst) := by
  simp only [ckF, Bool.and_eq_true, Bool.or_eq_true, decide_eq_true_eq, Nat.blt_eq] at h
  exact ⟨h.1, h.2.1, h.2.2.imp (fun q => tb_in q rfl) (fun q => nst_in q rfl)⟩
theorem fvl_get {wd : WD} {ad : Nat → Nat} {h : AH} {k ci j : Nat} (hj : j < (clA ci).2.2) : (fvl wd ad h k ci)[j]? = some (bif isRf ci j then .ref (ad (rfk wd k j)) else .int (Int32.ofInt (h.1 k j))) := by
  unfold fvl
  rw [List.getElem?_map, List.getElem?_range hj]
  rfl
theorem fvl_set {wd : WD} {ad : Nat → Nat} {h : AH} {k ci j : Nat} {z : Int} (hr : isRf ci j = false) : (fvl wd ad h k ci).set j (.int (Int32.ofInt z)) = fvl wd ad (pS h k j z) k ci := by
  apply List.ext_getElem?
  intro i
  unfold fvl
  rw [List.getElem?_set]
  simp only [List.length_map, List.length_range, List.getElem?_map]
  by_cases e : j = i
  · subst e
    rw [if_pos rfl]
    by_cases hk : j < (clA ci).2.2
    · rw [if_pos hk, List.getElem?_range hk]
      simp only [Option.map_some, hr, cond_false]
      show _ = some (Value.int (Int32.ofInt (if j = j ∧ k = k then z else h.1 k j)))
      simp
    · rw [if_neg hk, List.getElem?_eq_none (by simpa using Nat.le_of_not_lt hk)]; rfl
  · rw [if_neg e]
    by_cases hk : i < (clA ci).2.2
    · rw [List.getElem?_range hk]
      simp only [Option.map_some]
      show _ = some (bif isRf ci i then Value.ref (ad (rfk wd k i)) else .int (Int32.ofInt (if i = j ∧ k = k then z else h.1 k i)))
      rw [if_neg (fun q => e q.1.symm)]
    · rw [List.getElem?_eq_none (by simpa using Nat.le_of_not_lt hk)]; rfl
section OKF
variable {wd : WD} {d m pc pc' len : Nat} {R : AR} {L : AL} {st st' : List AV} {h : AH} {nx : AL → List AV → AH → Prop} {jp : Nat → AL → List AV → AH → Prop} {call : Nat → List AV → AH → AR → Prop} {idx x y w : Nat} {z : Int}
theorem Cx.tb {p : Program} {s : State} {mi : MethodId} {args : Array Value} {meth : Method} {c : Code} {D : va_G} {aT : Nat → ClassId} {ad : Nat → Nat} {A : Nat → Prop} (C : Cx m p s mi args meth c D aT ad A) : ∀ w ∈ tb, w.before args s = true := fun w hw => C.2.2.2.2.2.1 w (List.mem_cons_of_mem _ hw)
theorem Cx.nst {p : Program} {s : State} {mi : MethodId} {args : Array Value} {meth : Method} {c : Code} {D : va_G} {aT : Nat → ClassId} {ad : Nat → Nat} {A : Nat → Prop} (C : Cx m p s mi args meth c D aT ad A) : ∀ w ∈ nst, va_Nw w s := C.2.2.2.2.2.2.2.2.2.2.2.2.2.2
theorem fld_get {v : Value} (hc : ckF (mt m).1.cls idx x y w = true) (hd : decode (mt m).2.1 pc = .ok (.getfield idx, 3)) {p : Program} {l : Launch} {e : Env} {s : State} {mi : MethodId} {args : Array Value} {below : List Frame} {meth : Method} {c : Code} {D : va_G} {aT : Nat → ClassId} {ad : Nat → Nat} {A : Nat → Prop} {H : Heap} {locs : List Loc} {ls : Array Slot} {Q : State → Prop} {rest : List Value} {k : Nat} (C : Cx m p s mi args meth c D aT ad A) (hP : va_P D vwCl (wsO wd aT ad h) H) (hb : isOb wd k x = true) (hv : (fvl wd ad h k x)[y]? = some v)
    (kk : W p l e (rmD d) s mi args below meth c H locs 0 0 Q (F0 mi (pc + 3) ls (v :: rest))) : W p l e (rmD d) s mi args below meth c H locs 0 0 Q (F0 mi pc ls (.ref (ad k) :: rest)) := by
  obtain ⟨h1, h2, h3⟩ := ckF_spec hc
  obtain ⟨a, b⟩ := cel_obj (aT := aT) (ad := ad) (h := h) hb
  have he : (wsO wd aT ad h)[k]? = some (ad k, .inr (x, fvl wd ad h k x)) := by rw [wsO_get a, b]
  rcases h3 with h3 | h3
  · exact va_get C.1 C.2.1 C.tb (clU_in h1) C.2.2.2.2.1 C.2.2.2.2.2.2.2.2.1 hP k he (clA_at h1) y h2 (C.tb _ h3) (fun _ q => q) hv hd kk
  · exact va_getN C.1 C.2.1 C.tb (clU_in h1) C.2.2.2.2.1 C.2.2.2.2.2.2.2.2.1 hP k he (clA_at h1) y h2 (va_Nw.use rfl (C.nst _ h3)) (fun _ q => q) hv hd kk
theorem ok_getI (hc : ckF (mt m).1.cls idx x y w = true) (hr : isRf x y = false) (hd : decode (mt m).2.1 pc = .ok (.getfield idx, 3)) (hn : HN wd d m (pc + 3) R nx) (hw : wpX wd call R L st h nx (0, idx, x, y, w, z)) : At wd d m pc L st h R := by
  obtain ⟨k, st', e, hw⟩ := r1_spec hw
  obtain ⟨hb, h2⟩ := ob_spec hw
  subst e
  intro p l e s mi args below meth c D aT ad A H locs ls C hP hD hS hH hL hs hlv
  refine fld_get (v := .int (Int32.ofInt (h.1 k y))) hc hd C hP hb (by rw [fvl_get (ckF_spec hc).2.1, hr]; rfl) ?_
  exact hn _ _ _ h2 p l e s mi args below meth c D aT ad A H locs ls C hP hD hS hH hL (hs.tl.cons (v := .inl (h.1 k y)) (hH.1 k y)) hlv
theorem ok_getR (hc : ckF (mt m).1.cls idx x y w = true) (hr : isRf x y = true) (hd : decode (mt m).2.1 pc = .ok (.getfield idx, 3)) (hn : HN wd d m (pc + 3) R nx) (hw : wpX wd call R L st h nx (1, idx, x, y, w, z)) : At wd d m pc L st h R := by
  obtain ⟨k, st', e, hw⟩ := r1_spec hw
  obtain ⟨hb, h2⟩ := ob_spec hw
  subst e
  intro p l e s mi args below meth c D aT ad A H locs ls C hP hD hS hH hL hs hlv
  refine fld_get (v := .ref (ad (rfk wd k y))) hc hd C hP hb (by rw [fvl_get (ckF_spec hc).2.1, hr]; rfl) ?_
  exact hn _ _ _ h2 p l e s mi args below meth c D aT ad A H locs ls C hP hD hS hH hL (hs.tl.cons (v := .inr (.inr (rfk wd k y))) trivial) hlv
theorem cel_pS {aT : Nat → ClassId} {ad : Nat → Nat} {k i j : Nat} {v : Int} (e : j ≠ k) : cel wd aT ad (pS h k i v) j = cel wd aT ad h j := by
  have h2 : ∀ q, (pS h k i v).1 j q = h.1 j q := fun q => by
    show (if q = i ∧ j = k then v else h.1 j q) = _
    rw [if_neg (fun x => e x.2)]
  unfold cel fvl
  simp only [h2]
  rfl
theorem okH_pS {k i : Nat} {v : Int} (hH : okH wd h) (hv : inR v) : okH wd (pS h k i v) := by
  refine ⟨fun a b => ?_, hH.2⟩
  show inR (if b = i ∧ a = k then v else h.1 a b)
  by_cases e : b = i ∧ a = k
  · rw [if_pos e]; exact hv
  · rw [if_neg e]; exact hH.1 a b
theorem fld_put {v : Int} {ty : FieldType} (hc : ckF (mt m).1.cls idx x y w = true) (hf : (fT x y).2.2.2 = false) (hr : isRf x y = false) (hty : parseFieldDescriptor (fT x y).2.2.1 = some ty) (hnar : narrow ty (.int (Int32.ofInt v)) = .int (Int32.ofInt v)) (hfit : fits ty (.int (Int32.ofInt v)) = true) (hd : decode (mt m).2.1 pc = .ok (.putfield idx, 3)) {k : Nat} (hb : isOb wd k x = true) (hn : HN wd d m (pc + 3) R nx) (hw : nx L st' (pS h k y v)) : At wd d m pc L (.inl v :: .inr (.inr k) :: st') h R := by
  intro p l e s mi args below meth c D aT ad A H locs ls C hP hD hS hH hL hs hlv
  obtain ⟨h1, h2, h3⟩ := ckF_spec hc
  obtain ⟨a, b⟩ := cel_obj (aT := aT) (ad := ad) (h := h) hb
  have he : (wsO wd aT ad h)[k]? = some (ad k, .inr (x, fvl wd ad h k x)) := by rw [wsO_get a, b]
  have hse : (wsO wd aT ad h).set k (ad k, .inr (x, (fvl wd ad h k x).set y (.int (Int32.ofInt v)))) = wsO wd aT ad (pS h k y v) := by
    refine wsO_set ?_ (fun j e => cel_pS e)
    rw [(cel_obj hb).2, fvl_set hr]
  have kk : ∀ (H1 : Heap) (locs1 : List Loc), va_P D vwCl ((wsO wd aT ad h).set k (ad k, .inr (x, (fvl wd ad h k x).set y (.int (Int32.ofInt v))))) H1 → va_D A ((wsO wd aT ad h).set k (ad k, .inr (x, (fvl wd ad h k x).set y (.int (Int32.ofInt v))))) → va_S A s.heap H1 locs1 → W p l e (rmD d) s mi args below meth c H1 locs1 0 0 (MQ below (Qr wd D aT ad A R) args s 0 0 A) (F0 mi (pc + 3) ls (st'.map (cv ad))) := by
    intro H1 locs1 hP1 hD1 hS1
    rw [hse] at hP1 hD1
    exact hn _ _ _ hw p l e s mi args below meth c D aT ad A H1 locs1 ls C hP1 hD1 hS1 (okH_pS hH hs.hd) hL hs.tl.tl hlv
  have hlen : y < (fvl wd ad h k x).length := by unfold fvl; simpa using h2
  rcases h3 with h3 | h3
  · exact va_put C.1 C.2.1 C.tb (clU_in h1) (tyC x) (tyC_ok h1) (nmC x h1) C.2.2.2.2.1 C.2.2.2.2.2.2.2.2.1 hP hD hS k he (clA_at h1) y h2 (C.tb _ h3) (fun _ q => q) hf hty hnar hfit hlen hd kk
  · exact va_putN C.1 C.2.1 C.tb (clU_in h1) (tyC x) (tyC_ok h1) (nmC x h1) C.2.2.2.2.1 C.2.2.2.2.2.2.2.2.1 hP hD hS k he (clA_at h1) y h2 (va_Nw.use rfl (C.nst _ h3)) (fun _ q => q) hf hty hnar hfit hlen hd kk
theorem ok_putI (hc : ckF (mt m).1.cls idx x y w = true) (hf : (fT x y).2.2.2 = false) (hr : isRf x y = false) (hty : (fT x y).2.2.1 = "I") (hd : decode (mt m).2.1 pc = .ok (.putfield idx, 3)) (hn : HN wd d m (pc + 3) R nx) (hw : wpX wd call R L st h nx (2, idx, x, y, w, z)) : At wd d m pc L st h R := by
  obtain ⟨v, k, st', e, hw⟩ := ir_spec hw
  obtain ⟨hb, h2⟩ := ob_spec hw
  subst e
  exact fld_put (ty := .int) hc hf hr (by rw [hty]; decide +kernel) rfl rfl hd hb hn h2
theorem ok_putZ (hc : ckF (mt m).1.cls idx x y w = true) (hf : (fT x y).2.2.2 = false) (hr : isRf x y = false) (hty : (fT x y).2.2.1 = "Z") (hd : decode (mt m).2.1 pc = .ok (.putfield idx, 3)) (hn : HN wd d m (pc + 3) R nx) (hw : wpX wd call R L st h nx (3, idx, x, y, w, z)) : At wd d m pc L st h R := by
  obtain ⟨v, k, st', e, hw⟩ := ir_spec hw
  obtain ⟨hb, h32⟩ := ob_spec hw
  obtain ⟨h3, h2⟩ := zok_spec h32
  subst e
  exact fld_put (ty := .boolean) hc hf hr (by rw [hty]; decide +kernel) (by rcases h3 with rfl | rfl <;> rfl) (by rcases h3 with rfl | rfl <;> rfl) hd hb hn h2
end OKF
end
section
/-! calls -/
theorem va_A_sub {wd : WD} {aT : Nat → ClassId} {ad : Nat → Nat} {h : AH} {A : Nat → Prop} {H0 H : Heap} {locs : List Loc} (hD : va_D A (wsO wd aT ad h)) (hS : va_S A H0 H locs) (hA : ∀ q, H0.size ≤ q → A q) : ∀ q, va_A (wsO wd aT ad h) H.size q → A q := by
  intro q hq
  rcases hq with ⟨k, e, h1⟩ | h1
  · exact hD.2 k _ h1
  · exact hA q (Nat.le_trans hS.1 h1)
theorem am_call {wd : WD} {p : Program} {l : Launch} {e : Env} {Rm : Room} {s : State} {m : MethodId} {args : Array Value} {below : List Frame} {meth : Method} {c : Code} {H : Heap} {locs : List Loc} {Q : State → Prop} {pc : Nat} {ls : Array Slot} {st0 rest : List Value} {D : va_G} {aT : Nat → ClassId} {ad : Nat → Nat} {A1 A0 free : Nat → Prop} {a : Array Value} {R : AR}
    (hr : va_Run p l e Rm s m args below meth c H locs 0 0 0 0 (F0 m pc ls st0) rest (Qr wd D aT ad A1 R a) free) (hS : va_S A0 s.heap H locs) (hA : ∀ q, A1 q → A0 q) (hf : ∀ q, free q → A0 q)
    (kk : ∀ (o : Option AV) (u : AH) (H1 : Heap) (locs1 : List Loc), R o u → (∀ v, o = some v → okV v) → va_P D vwCl (wsO wd aT ad u) H1 → va_D A0 (wsO wd aT ad u) → okH wd u → va_S A0 s.heap H1 locs1 → W p l e Rm s m args below meth c H1 locs1 0 0 Q (F0 m (pc + 3) ls ((o.map (cv ad)).toList ++ rest))) : W p l e Rm s m args below meth c H locs 0 0 Q (F0 m pc ls st0) := by
  intro T hT X
  obtain ⟨v, st₀, t, T', L, h0, X', hL, e1, e2, ⟨⟨o, u, hv, hp, hok, hPu, hKu, hDu, hHu⟩, hz, hk⟩, st⟩ := hr T hT X
  cases hv
  rw [h0] at hz hk
  obtain ⟨t2, a1, b1⟩ := kk o u T'.heap (locs ++ L) hp hok (by rw [e1]; exact hPu) (hDu.weaken (fun _ _ _ q => hA _ q)) hHu
    ⟨Nat.le_trans hS.1 (by rw [e1]; exact hz), fun q h1 h2 => by rw [e1, hk q (Nat.lt_of_lt_of_le h1 hS.1) (fun z => h2 (hA q z))]; exact hS.2.1 q h1 h2, fun q hq => by
      rcases List.mem_append.mp hq with h | h
      · exact hS.2.2 q h
      · exact hf _ (hL q h)⟩ T' rfl X'
  exact ⟨t2, st t2 a1, b1⟩
theorem popN_spec : ∀ (n : Nat) (acc st as st' : List AV), popN n acc st = some (as, st') → as.reverse ++ st' = acc.reverse ++ st ∧ as.length = acc.length + n
  | 0, acc, st, as, st', h => by cases h; exact ⟨rfl, rfl⟩
  | n + 1, acc, v :: st, as, st', h => by
    obtain ⟨h1, h2⟩ := popN_spec n (v :: acc) st as st' h
    refine ⟨by rw [h1]; simp, by rw [h2]; simp; omega⟩
  | n + 1, acc, [], as, st', h => by cases h
theorem catS_ok {ad : Nat → Nat} : ∀ st : List AV, ((st.map (cv ad)).map fun v => v.category).sum = catS st
  | [] => rfl
  | .inl _ :: st => by simp only [List.map_cons, List.sum_cons, catS_ok st]; show 1 + catS st = catS st + 1; omega
  | .inr (.inl _) :: st => by simp only [List.map_cons, List.sum_cons, catS_ok st]; show 2 + catS st = catS st + 2; omega
  | .inr (.inr _) :: st => by simp only [List.map_cons, List.sum_cons, catS_ok st]; show 1 + catS st = catS st + 1; omega
/-- how a call is checked: the word, the kind of call, the receiver's class, how many arguments -/
def ckC (own : String) (b : ByteArray) (pc idx mid y w : Nat) : Bool :=
  Nat.blt mid nM && (((mpl mid).2.1 == (y / 100 == 99)) && ((decide (tg w = some (.methodLink own idx (mt mid).1)) || decide (tg w = some (.methodLinkNest own idx (mt mid).1 "FormulaCode"))) &&
  ((if y / 100 = 99 then decide (decode b pc = .ok (.invokestatic idx, 3)) && decide ((parseMethodDescriptor (mt mid).1.desc).map (fun d => d.parameters.length) = some (y % 100))
    else decide (decode b pc = .ok (.invokevirtual idx, 3)) && (decide ((parseMethodDescriptor (mt mid).1.desc).map (fun d => d.parameters.length + 1) = some (y % 100)) && (if y / 100 = 8 then decide ((mt mid).1.cls = "java/lang/String") else Nat.blt (y / 100) 8 && decide ((clA (y / 100)).1 = (mt mid).1.cls)))))))
theorem Pw_blind {wd : WD} {D : va_G} {aT : Nat → ClassId} {ad : Nat → Nat} {sz : Nat} {as : List AV} {h : AH} : FrameBlind (va_Pc (as.map (cv ad)) (Pw wd D aT ad sz as h)) := by
  intro a U g mk q
  obtain ⟨q0, q1, qP, qK, qD, qH, qa, qS⟩ := q
  exact ⟨q0, q1, qP, va_K.moved (u := U) (U := U.calling g mk a) (Vm.Alike.refl U.vm) qK, qD, qH, qa, Sta.blind (U := U) (V := U.calling g mk a) rfl rfl qS⟩
theorem wsM_good {m mid : Nat} (hm : mid < nM) : GoodIn (wsM m) (wsM mid) := by
  intro w hw
  have : w ∈ tb := by
    rcases List.mem_cons.mp hw with e | e
    · rw [e]; exact (mt_facts hm).1
    · exact e
  exact ⟨List.mem_cons_of_mem _ this, good_of_word (List.mem_filter.mp this).2⟩
theorem good_cons {m : Nat} {w : Cond} {ws : List Cond} (hw : w ∈ tb) (h : GoodIn (wsM m) ws) : GoodIn (wsM m) (w :: ws) := by
  intro u hu
  rcases List.mem_cons.mp hu with e | e
  · rw [e]; exact ⟨List.mem_cons_of_mem _ hw, good_of_word (List.mem_filter.mp hw).2⟩
  · exact h u e
section OKL
variable {wd : WD} {d m pc pc' len : Nat} {R : AR} {L : AL} {st st' : List AV} {h : AH} {nx : AL → List AV → AH → Prop} {jp : Nat → AL → List AV → AH → Prop} {idx x y w : Nat} {z : Int}
theorem room_ok {mid : Nat} (hm : mid < nM) : (rmD d).frames + 1 ≤ (rmD (d + 1)).frames ∧ 8 + ((mt mid).2.2.1 + 11) + (rmD d).locals ≤ (rmD (d + 1)).locals := by
  have := (mt_facts hm).2.2.2.2.2.1
  refine ⟨Nat.le_refl _, ?_⟩
  show 8 + ((mt mid).2.2.1 + 11) + 34 * d ≤ 34 * (d + 1)
  omega
/-- what is left when the callee's end is known -/
theorem ok_call0 {mid cc : Nat} {as : List AV} {R1 : AR} (hm : mid < nM) (hck : ckC (mt m).1.cls (mt m).2.1 pc idx mid y w = true) (hpop : popN (y % 100) [] st = some (as, st')) (hcat : catS st' ≤ 8)
    (hrc : y / 100 ≠ 99 → ∃ k as', as = .inr (.inr k) :: as' ∧ ((y / 100 = 8 ∧ isStr k = true) ∨ (y / 100 ≠ 8 ∧ isOb wd k (y / 100) = true)))
    (hcall : Call wd d mid as h R1) (hk : ∀ o u, R1 o u → (∀ v, o = some v → okV v) → At wd (d + 1) m (pc + 3) L (o.toList ++ st') u R) : At wd (d + 1) m pc L st h R := by
  intro p l e s mi args below meth c D aT ad A H locs ls C hP hD hS hH hL hs hlv
  obtain ⟨hx, hb, hr, hml, hown, hts, hlk, hA, hK, hSt⟩ := id C
  obtain ⟨f1, f2, f3, f4, f5, f6, f7⟩ := mt_facts hm
  have hsub := va_A_sub hD hS hA
  obtain ⟨hst, hlen⟩ := popN_spec _ _ _ _ _ hpop
  have hst : st = as.reverse ++ st' := by simpa using hst.symm
  have hlen : as.length = y % 100 := by simpa using hlen
  have hoka : ∀ v ∈ as, okV v := fun v hv => hs v (by rw [hst]; exact List.mem_append_left _ (List.mem_reverse.mpr hv))
  have hoks : okS st' := fun v hv => hs v (by rw [hst]; exact List.mem_append_right _ hv)
  have hM := hcall l D aT ad H.size
  have hPc : ∀ U : State, U.heap = H → s.WarmedH U.vm → va_Pc (as.map (cv ad)) (Pw wd D aT ad H.size as h) (as.map (cv ad)).toArray U := fun U hU hW =>
    ⟨rfl, by rw [hU], by rw [hU]; exact hP, va_K.moved hW.alike hK, hD.weaken (fun _ _ _ _ => trivial), hH, hoka, Sta.to hW hU hS hsub hSt⟩
  have fin : va_Run p l e (rmD (d + 1)) s mi args below meth c H locs 0 0 0 0 (F0 mi pc ls (st.map (cv ad))) (st'.map (cv ad)) (Qr wd D aT ad (va_A (wsO wd aT ad h) H.size) R1 (as.map (cv ad)).toArray) (va_A (wsO wd aT ad h) H.size) → W p l e (rmD (d + 1)) s mi args below meth c H locs 0 0 (MQ below (Qr wd D aT ad A R) args s 0 0 A) (F0 mi pc ls (st.map (cv ad))) := fun hrun =>
    am_call hrun hS hsub hsub (fun o u H1 locs1 hR1 hok hP1 hD1 hH1 hS1 => by
      have hokn : okS (o.toList ++ st') := fun v hv => by
        rcases List.mem_append.mp hv with q | q
        · exact hok v (by cases o with | none => cases q | some v' => simp at q; rw [q])
        · exact hoks v q
      have := hk o u hR1 hok p l e s mi args below meth c D aT ad A H1 locs1 ls C hP1 hD1 hS1 hH1 hL hokn hlv
      rw [List.map_append] at this
      cases o <;> exact this)
  have hcatW : 2 * (F0 mi pc ls (st.map (cv ad))).monitorRoom + ((st'.map (cv ad)).map fun v => v.category).sum ≤ 8 := by
    exact lv_room (by rw [catS_ok]; exact hcat)
  simp only [ckC, Bool.and_eq_true, Bool.or_eq_true, decide_eq_true_eq, beq_iff_eq] at hck
  obtain ⟨-, hst1, hlink, hrest⟩ := hck
  by_cases c99 : y / 100 = 99
  · rw [if_pos c99] at hrest
    simp only [Bool.and_eq_true, decide_eq_true_eq] at hrest
    have hstat : (mpl mid).2.1 = true := by rw [hst1, c99]; rfl
    rw [if_pos hstat] at f2
    rcases hlink with hlink | hlink
    · refine fin (va_runS (As := as.map (cv ad)) ⟨hx, hb, hml, hown, hts⟩ hM (va_cwS (y % 100) hts ?_ rfl rfl rfl ⟨f4, f5, hrest.2⟩ (room_ok hm)) ⟨Pw_blind, hPc⟩ rfl (by rw [List.length_map]; exact hlen) hlv.1 (by show st.map (cv ad) = _; rw [hst]; simp) hcatW hrest.1 ⟨Nat.le_refl _, Nat.le_refl _⟩)
      exact good_cons (tb_in hlink rfl) (good_cons f2 (good_cons f3 (wsM_good hm)))
    · exact fin (va_runSN (As := as.map (cv ad)) ⟨hx, hb, hml, hown, hts⟩ hM ⟨va_cnB (y % 100) hts (wsM_good hm) rfl rfl rfl (C.nst _ (nst_in hlink rfl)) (C.tb _ f3) ⟨f4, f5, hrest.2⟩ (room_ok hm), C.tb _ f2, trivial⟩ ⟨Pw_blind, hPc⟩ rfl (by rw [List.length_map]; exact hlen) hlv.1 (by show st.map (cv ad) = _; rw [hst]; simp) hcatW hrest.1 ⟨Nat.le_refl _, Nat.le_refl _⟩)
  · rw [if_neg c99] at hrest
    simp only [Bool.and_eq_true, decide_eq_true_eq] at hrest
    obtain ⟨hdec, hpar, hcls⟩ := hrest
    have hstat : ¬ (mpl mid).2.1 = true := by
      rw [hst1]
      simpa using c99
    rw [if_neg hstat] at f2
    obtain ⟨k, as', rfl, hkc⟩ := hrc c99
    have hpar' : (parseMethodDescriptor (mt mid).1.desc).map (fun d => d.parameters.length) = some (as'.map (cv ad)).length := by
      rw [List.length_map]
      simp only [List.length_cons] at hlen
      cases hq : parseMethodDescriptor (mt mid).1.desc with
      | none => rw [hq] at hpar; cases hpar
      | some sg =>
        rw [hq] at hpar
        have h9 : sg.parameters.length + 1 = y % 100 := Option.some.inj hpar
        show some sg.parameters.length = some as'.length
        congr 1
        omega
    have hrecv : ∃ cellB : Cell, H[ad k]? = some cellB ∧ cellB.vm.isStatics = false ∧ s.vm.findClass (mt mid).1.cls = some cellB.cls := by
      rcases hkc with ⟨c8, hk8⟩ | ⟨c8, hk8⟩
      · rw [if_pos c8] at hcls
        simp only [decide_eq_true_eq] at hcls
        simp only [isStr, Bool.and_eq_true, Nat.ble_eq, Nat.blt_eq] at hk8
        obtain ⟨av, a1, a2, -⟩ := hSt.1 (k - 1000) (by omega)
        rw [show 1000 + (k - 1000) = k by omega] at a2
        obtain ⟨cell, b1, b2, b3, -⟩ := a2.kept hS.2.1
        exact ⟨cell, b1, b2, by rw [hcls]; exact b3⟩
      · rw [if_neg c8] at hcls
        simp only [Bool.and_eq_true, decide_eq_true_eq, Nat.blt_eq] at hcls
        obtain ⟨a, b⟩ := cel_obj (aT := aT) (ad := ad) (h := h) hk8
        have he : (wsO wd aT ad h)[k]? = some (ad k, .inr (y / 100, fvl wd ad h k (y / 100))) := by rw [wsO_get a, b]
        obtain ⟨cell, b1, b2, b3⟩ := va_recv hK hP (clA_at hcls.1) he
        exact ⟨cell, b1, b2, by rw [← hcls.2]; exact b3⟩
    rcases hlink with hlink | hlink
    · refine fin (va_runV (C := (mt mid).1.cls) (As := as'.map (cv ad)) (b := ad k) ⟨hx, hb, hml, hown, hts⟩ hM (cwV (as'.map (cv ad)).length hts ?_ rfl rfl rfl ⟨rfl, f4, f5, hpar'⟩ (room_ok hm)) ⟨Pw_blind, hrecv, hPc⟩ rfl rfl hlv.1 (by show st.map (cv ad) = _; rw [hst]; simp [cv]) hcatW hdec ⟨Nat.le_refl _, Nat.le_refl _⟩)
      exact good_cons (tb_in hlink rfl) (good_cons f2.1 (good_cons f2.2 (good_cons f3 (wsM_good hm))))
    · exact fin (va_runVN (C := (mt mid).1.cls) (As := as'.map (cv ad)) (b := ad k) ⟨hx, hb, hml, hown, hts⟩ hM ⟨va_cnB (as'.map (cv ad)).length hts (wsM_good hm) rfl rfl rfl (C.nst _ (nst_in hlink rfl)) (C.tb _ f3) ⟨f4, f5, hpar'⟩ (room_ok hm), C.tb _ f2.1, C.tb _ f2.2⟩ ⟨Pw_blind, hrecv, hPc⟩ rfl rfl hlv.1 (by show st.map (cv ad) = _; rw [hst]; simp [cv]) hcatW hdec ⟨Nat.le_refl _, Nat.le_refl _⟩)
end OKL
end
section
/-! the rest: constants, the list of functions, lengths -/
section OKM
variable {wd : WD} {d m pc pc' len : Nat} {R : AR} {L : AL} {st st' : List AV} {h : AH} {nx : AL → List AV → AH → Prop} {jp : Nat → AL → List AV → AH → Prop} {call : Nat → List AV → AH → AR → Prop} {idx x y w : Nat} {z : Int}
theorem ofNat32 (n : Nat) : Int32.ofNat n = Int32.ofInt (n : Int) := rfl
theorem ok_flen (hd : decode (mt m).2.1 pc = .ok (.arraylength, 1)) (hn : HN wd d m (pc + 1) R nx) (hw : wpX wd call R L st h nx (13, idx, x, y, w, z)) : At wd d m pc L st h R := by
  obtain ⟨k, st', e, hw9⟩ := r1_spec hw
  obtain ⟨hq, h2⟩ := ob_spec hw9
  have hk : k = 3000 := Nat.eq_of_beq_eq_true hq
  subst hk
  subst e
  intro p l e s mi args below meth c D aT ad A H locs ls C hP hD hS hH hL hs hlv
  obtain ⟨hx, hb, hr, hml, hown, hts, hlk, hA, hK, hSt⟩ := id C
  exact va_tlen hx hb hSt.2.2.2.1 hS (v := Int32.ofInt 133) rfl hd (hn _ _ _ h2 p l e s mi args below meth c D aT ad A H locs ls C hP hD hS hH hL (hs.tl.cons (v := .inl 133) (by constructor <;> omega)) hlv)
theorem ok_arraylength (hd : decode (mt m).2.1 pc = .ok (.arraylength, 1)) (hn : HN wd d m (pc + 1) R nx) (hw : wpP wd R pc L st h nx jp .arraylength) : At wd d m pc L st h R := by
  obtain ⟨k, st', e, hw9⟩ := r1_spec hw
  obtain ⟨hq, h2⟩ := ob_spec hw9
  subst e
  intro p l e s mi args below meth c D aT ad A H locs ls C hP hD hS hH hL hs hlv
  obtain ⟨hx, hb, hr, hml, hown, hts, hlk, hA, hK, hSt⟩ := id C
  simp only [isAn, Bool.and_eq_true, beq_iff_eq, Nat.blt_eq, Nat.ble_eq] at hq
  obtain ⟨q1, q2, q3, q4⟩ := hq
  have hab : isAb wd k (wd.2.1 k).2.1 = true := by simp [isAb, q1, q2]
  obtain ⟨-, -, hc⟩ := cel_arr (aT := aT) (ad := ad) (h := h) hab
  have he := wsO_get (aT := aT) (ad := ad) (h := h) q1
  rw [hc] at he
  have kk := hn _ _ _ h2 p l e s mi args below meth c D aT ad A H locs ls C hP hD hS hH hL (hs.tl.cons (v := .inl (alen wd k)) (by show inR (((wd.2.1 k).2.2 : Nat) : Int); constructor <;> omega)) hlv
  match ht : (wd.2.1 k).2.1, q3 with
  | 0, _ => rw [ht] at he; exact va_alen hx hb hK hP k 0 he tyA0 (v := Int32.ofInt (alen wd k)) rfl hd kk
  | 1, _ => rw [ht] at he; exact va_alen hx hb hK hP k 1 he tyA1 (v := Int32.ofInt (alen wd k)) rfl hd kk
  | 2, _ => rw [ht] at he; exact va_alen hx hb hK hP k 2 he tyA2 (v := Int32.ofInt (alen wd k)) rfl hd kk
  | 3, _ => rw [ht] at he; exact va_alen hx hb hK hP k 3 he tyA3 (v := Int32.ofInt (alen wd k)) rfl hd kk
theorem ok_aaload (hd : decode (mt m).2.1 pc = .ok (.aaload, 1)) (hn : HN wd d m (pc + 1) R nx) (hw : wpP wd R pc L st h nx jp .aaload) : At wd d m pc L st h R := by
  obtain ⟨i, k, st', e, hw⟩ := ir_spec hw
  obtain ⟨hq, ⟨i0, i1⟩, h2⟩ := ob_spec hw
  have hk : k = 3000 := Nat.eq_of_beq_eq_true hq
  subst hk
  subst e
  intro p l e s mi args below meth c D aT ad A H locs ls C hP hD hS hH hL hs hlv
  have hi : inR i := hs.hd
  obtain ⟨hx, hb, hr, hml, hown, hts, hlk, hA, hK, hSt⟩ := id C
  exact vb_tq hx hb hSt.2.2.2.1 hS (i32in hi i0 i1) (v := .ref (ad (2000 + i.toNat))) (by rw [i32cl hi]) hd (hn _ _ _ h2 p l e s mi args below meth c D aT ad A H locs ls C hP hD hS hH hL (hs.tl.tl.cons (v := .inr (.inr (2000 + i.toNat))) trivial) hlv)
theorem ok_ldc2 (hc : tg w = some (.constantLong (mt m).1.cls idx (Int64.ofInt z))) (hz : inJ z) (hd : decode (mt m).2.1 pc = .ok (.ldc2_w idx, 3)) (hn : HN wd d m (pc + 3) R nx) (hw : wpX wd call R L st h nx (5, idx, x, y, w, z)) : At wd d m pc L st h R := by
  intro p l e s mi args below meth c D aT ad A H locs ls C hP hD hS hH hL hs hlv
  exact lv_ldc2 C.1 C.2.1 C.2.2.2.2.1 (C.tb _ (tb_in hc rfl)) hd (hn _ _ _ hw p l e s mi args below meth c D aT ad A H locs ls C hP hD hS hH hL (hs.cons (v := .inr (.inl z)) hz) hlv)
theorem ok_ldcI {pc2 : Nat} (hc : tg w = some (.constant (mt m).1.cls idx (Int32.ofInt z))) (hz : inR z) (hd : (decode (mt m).2.1 pc = .ok (.ldc idx, 2) ∧ pc2 = pc + 2) ∨ (decode (mt m).2.1 pc = .ok (.ldc_w idx, 3) ∧ pc2 = pc + 3)) (hn : HN wd d m pc2 R nx) (hw : wpX wd call R L st h nx (6, idx, x, y, w, z)) : At wd d m pc L st h R := by
  intro p l e s mi args below meth c D aT ad A H locs ls C hP hD hS hH hL hs hlv
  have kk := hn _ _ _ hw p l e s mi args below meth c D aT ad A H locs ls C hP hD hS hH hL (hs.cons (v := .inl z) hz) hlv
  rcases hd with ⟨hd, rfl⟩ | ⟨hd, rfl⟩
  · exact lv_ldc C.1 C.2.1 C.2.2.2.2.1 (C.tb _ (tb_in hc rfl)) hd kk
  · exact lv_ldcw C.1 C.2.1 C.2.2.2.2.1 (C.tb _ (tb_in hc rfl)) hd kk
theorem ok_ldcS (hx1 : x < 175) (hc : (strs.getD x stD).1 = (mt m).1.cls) (hi : (strs.getD x stD).2.1 = idx) (hd : decode (mt m).2.1 pc = .ok (.ldc idx, 2)) (hn : HN wd d m (pc + 2) R nx) (hw : wpX wd call R L st h nx (7, idx, x, y, w, z)) : At wd d m pc L st h R := by
  intro p l e s mi args below meth c D aT ad A H locs ls C hP hD hS hH hL hs hlv
  obtain ⟨av, a1, -⟩ := C.2.2.2.2.2.2.2.2.2.1 x hx1
  rw [hc, hi] at a1
  exact va_ldcS C.1 C.2.1 C.2.2.2.2.1 a1 hd (hn _ _ _ hw p l e s mi args below meth c D aT ad A H locs ls C hP hD hS hH hL (hs.cons (v := .inr (.inr (1000 + x))) trivial) hlv)
def wFUN (own : String) (idx : Nat) : Cond := .fieldLink own idx "FormulaCode" "FUNCTIONS" "[LFormulaCode$Function;"
def wFUNn (own : String) (idx : Nat) : Cond := .fieldLinkNest own idx "FormulaCode" "FUNCTIONS" "[LFormulaCode$Function;" "FormulaCode"
theorem ok_getF (hc : tg w = some (wFUN (mt m).1.cls idx) ∨ tg w = some (wFUNn (mt m).1.cls idx)) (hd : decode (mt m).2.1 pc = .ok (.getstatic idx, 3)) (hn : HN wd d m (pc + 3) R nx) (hw : wpX wd call R L st h nx (8, idx, x, y, w, z)) : At wd d m pc L st h R := by
  intro p l e s mi args below meth c D aT ad A H locs ls C hP hD hS hH hL hs hlv
  have kk := hn _ _ _ hw p l e s mi args below meth c D aT ad A H locs ls C hP hD hS hH hL (hs.cons (v := .inr (.inr 3000)) trivial) hlv
  rcases hc with hc | hc
  · exact va_gets C.1 C.2.1 C.2.2.2.2.2.2.2.2.2.2.2.1 hS C.2.2.2.2.1 (C.tb _ (tb_in hc rfl)) (fun _ q => q) hd kk
  · exact va_getsN C.1 C.2.1 C.2.2.2.2.2.2.2.2.2.2.2.1 hS C.2.2.2.2.1 (va_Nw.use rfl (C.nst _ (nst_in hc rfl))) (fun _ q => q) hd kk
def wGR (own : String) (idx : Nat) : Cond := .fieldLinkNest own idx "FormulaCode$Function" "great" "Ljava/lang/String;" "FormulaCode"
theorem ok_getG (hc : tg w = some (wGR (mt m).1.cls idx)) (hd : decode (mt m).2.1 pc = .ok (.getfield idx, 3)) (hn : HN wd d m (pc + 3) R nx) (hw : wpX wd call R L st h nx (10, idx, x, y, w, z)) : At wd d m pc L st h R := by
  obtain ⟨k, st', e, hw9⟩ := r1_spec hw
  obtain ⟨hq, h2⟩ := ob_spec hw9
  subst e
  simp only [isEn, Bool.and_eq_true, Nat.ble_eq, Nat.blt_eq] at hq
  intro p l e s mi args below meth c D aT ad A H locs ls C hP hD hS hH hL hs hlv
  have h3 := (C.2.2.2.2.2.2.2.2.2.2.1 (k - 2000) (by omega)).2.1
  rw [show 2000 + (k - 2000) = k by omega] at h3
  obtain ⟨cf, kk, fi, f, cell, g1, g2, g3, g4, g5, g6⟩ := h3.kept hS.2.1
  exact va_Wgetf C.1 C.2.1 C.2.2.2.2.1 (va_Nw.use rfl (C.nst _ (nst_in hc rfl))) g1 g2 g3 g4 (v := .ref (ad (1000 + efS (k - 2000)))) g5 rfl rfl hd (hn _ _ _ h2 p l e s mi args below meth c D aT ad A H locs ls C hP hD hS hH hL (hs.tl.cons (v := .inr (.inr (1000 + efS (k - 2000)))) trivial) hlv)
end OKM
end
section
/-! a method's text, checked against its bytes; wp over it; wp is sound -/
def ilen : Instr → Nat
  | .bipush _ => 2
  | .iload _ => 2
  | .istore _ => 2
  | .aload _ => 2
  | .astore _ => 2
  | .lload _ => 2
  | .lstore _ => 2
  | .sipush _ => 3
  | .goto _ => 3
  | .if_icmp _ _ => 3
  | .ifCond _ _ => 3
  | .iinc _ _ => 3
  | _ => 1
/-- what is asked of a plain instruction beside its bytes: targets, small numbers, places of locals -/
def iok (nl : Nat) (rt : Option FieldType) (pc : Nat) : Instr → Bool
  | .goto o => decide (0 ≤ (pc : Int) + o)
  | .if_icmp _ o => decide (0 ≤ (pc : Int) + o)
  | .ifCond _ o => decide (0 ≤ (pc : Int) + o)
  | .tableswitch d lo hi os => decide (0 ≤ (pc : Int) + d) && (os.toList.all (fun o => decide (0 ≤ (pc : Int) + o)) && decide (hi - lo < (os.toList.length : Int)))
  | .lookupswitch d ps => decide (0 ≤ (pc : Int) + d) && (ps.toList.all (fun o => decide (0 ≤ (pc : Int) + o.2)) && (ps.toList.zip (ps.toList.drop 1)).all (fun (a, next) => a.1 < next.1))
  | .iconst n => decide (-2147483648 ≤ n ∧ n ≤ 2147483647)
  | .bipush n => decide (-128 ≤ n ∧ n < 128)
  | .sipush n => decide (-32768 ≤ n ∧ n < 32768)
  | .istore k => Nat.blt k nl
  | .istore_n k => Nat.blt k nl
  | .astore k => Nat.blt k nl
  | .astore_n k => Nat.blt k nl
  | .lstore k => Nat.blt (k + 1) nl
  | .lstore_n k => Nat.blt (k + 1) nl
  | .ireturn => decide (rt = some .int)
  | .lreturn => decide (rt = some .long)
  | .areturn => (match rt with
    | some (.object _) => true
    | _ => false)
  | .return_ => decide (rt = none)
  | _ => true
def isSw : Instr → Bool
  | .tableswitch .. => true
  | .lookupswitch .. => true
  | _ => false
def ckI (q : MI) (pc len : Nat) (a : AI) : Bool := match a with
  | .inl i => decide (decode q.2.1 pc = .ok (i, len)) && ((isSw i || len == ilen i) && iok q.2.2.1 q.2.2.2 pc i)
  | .inr (0, idx, x, y, w, _) => len == 3 && (decide (decode q.2.1 pc = .ok (.getfield idx, 3)) && (ckF q.1.cls idx x y w && !isRf x y))
  | .inr (1, idx, x, y, w, _) => len == 3 && (decide (decode q.2.1 pc = .ok (.getfield idx, 3)) && (ckF q.1.cls idx x y w && isRf x y))
  | .inr (2, idx, x, y, w, _) => len == 3 && (decide (decode q.2.1 pc = .ok (.putfield idx, 3)) && (ckF q.1.cls idx x y w && (!isRf x y && (!(fT x y).2.2.2 && decide ((fT x y).2.2.1 = "I")))))
  | .inr (3, idx, x, y, w, _) => len == 3 && (decide (decode q.2.1 pc = .ok (.putfield idx, 3)) && (ckF q.1.cls idx x y w && (!isRf x y && (!(fT x y).2.2.2 && decide ((fT x y).2.2.1 = "Z")))))
  | .inr (4, idx, x, y, w, _) => len == 3 && ckC q.1.cls q.2.1 pc idx x y w
  | .inr (5, idx, _, _, w, z) => len == 3 && (decide (decode q.2.1 pc = .ok (.ldc2_w idx, 3)) && (decide (tg w = some (.constantLong q.1.cls idx (Int64.ofInt z))) && decide (inJ z)))
  | .inr (6, idx, x, _, w, z) => (decide (tg w = some (.constant q.1.cls idx (Int32.ofInt z))) && decide (inR z)) && (if x = 0 then len == 2 && decide (decode q.2.1 pc = .ok (.ldc idx, 2)) else len == 3 && decide (decode q.2.1 pc = .ok (.ldc_w idx, 3)))
  | .inr (7, idx, x, _, _, _) => len == 2 && (decide (decode q.2.1 pc = .ok (.ldc idx, 2)) && (Nat.blt x 175 && (decide ((strs.getD x stD).1 = q.1.cls) && (strs.getD x stD).2.1 == idx)))
  | .inr (8, idx, _, _, w, _) => len == 3 && (decide (decode q.2.1 pc = .ok (.getstatic idx, 3)) && (decide (tg w = some (wFUN q.1.cls idx)) || decide (tg w = some (wFUNn q.1.cls idx))))
  | .inr (10, idx, _, _, w, _) => len == 3 && (decide (decode q.2.1 pc = .ok (.getfield idx, 3)) && decide (tg w = some (wGR q.1.cls idx)))
  | .inr (13, _, _, _, _, _) => len == 1 && decide (decode q.2.1 pc = .ok (.arraylength, 1))
  | .inr (11, _, _, _, _, _) => len == 1 && (decide (decode q.2.1 pc = .ok (.ireturn, 1)) && decide (q.2.2.2 = some .boolean))
  | _ => false
abbrev CD : Type := List (Nat × Nat × AI)
def ckM (q : MI) : CD → Bool
  | [] => true
  | (pc, len, a) :: cs => ckI q pc len a && ((match cs with
    | [] => true
    | (pc', _, _) :: _ => pc' == pc + len) && ckM q cs)
def calD (wd : WD) : Nat → Nat → List AV → AH → AR → Prop
  | 0 => fun _ _ _ _ => False
  | d + 1 => Call wd d
def wpA (wd : WD) (d : Nat) (R : AR) (pc : Nat) (L : AL) (st : List AV) (h : AH) (nx : AL → List AV → AH → Prop) (jp : Nat → AL → List AV → AH → Prop) (a : AI) : Prop := match a with
  | .inl i => wpP wd R pc L st h nx jp i
  | .inr q => wpX wd (calD wd d) R L st h nx q
theorem offs_ge {pc : Nat} {dt : Int} (h0 : 0 ≤ (pc : Int) + dt) : ∀ (ps : List (Int × Int)), (∀ q ∈ ps, 0 ≤ (pc : Int) + q.2) → ∀ z : Int, 0 ≤ (pc : Int) + Op.lookupswitch.offset ps dt z
  | [], _, z => h0
  | q :: ps, h, z => by
    have ih := offs_ge h0 ps (fun q hq => h q (List.mem_cons_of_mem _ hq)) z
    have hq := h q List.mem_cons_self
    simp only [Op.lookupswitch.offset] at *
    split
    · exact hq
    · exact ih
section WPOK
variable {wd : WD} {d m pc len : Nat} {R : AR} {L : AL} {st : List AV} {h : AH} {nx : AL → List AV → AH → Prop} {jp : Nat → AL → List AV → AH → Prop}
theorem wpP_ok {i : Instr} (hc : ckI (mt m) pc len (.inl i) = true) (hn : HN wd d m (pc + len) R nx) (hj : HJ wd d m R jp) (hw : wpP wd R pc L st h nx jp i) : At wd d m pc L st h R := by
  simp only [ckI, Bool.and_eq_true, decide_eq_true_eq, Bool.or_eq_true, beq_iff_eq] at hc
  obtain ⟨hd, hl, hi⟩ := hc
  cases i with
  | aaload => obtain rfl : len = 1 := hl.resolve_left (by simp [isSw]); exact ok_aaload hd hn hw
  | aload k => obtain rfl : len = 2 := hl.resolve_left (by simp [isSw]); exact ok_ldR (Or.inr ⟨hd, rfl⟩) hn hw
  | aload_n k => obtain rfl : len = 1 := hl.resolve_left (by simp [isSw]); exact ok_ldR (Or.inl ⟨k, rfl, hd, rfl⟩) hn hw
  | areturn =>
    obtain rfl : len = 1 := hl.resolve_left (by simp [isSw])
    match hr : (mt m).2.2.2 with
    | some (.object n) => exact ok_areturn hd hr hw
    | none => rw [hr] at hi; cases hi
    | some .int => rw [hr] at hi; cases hi
    | some .long => rw [hr] at hi; cases hi
    | some .boolean => rw [hr] at hi; cases hi
    | some .char => rw [hr] at hi; cases hi
    | some .byte => rw [hr] at hi; cases hi
    | some .short => rw [hr] at hi; cases hi
    | some .float => rw [hr] at hi; cases hi
    | some .double => rw [hr] at hi; cases hi
    | some (.array _) => rw [hr] at hi; cases hi
  | arraylength => obtain rfl : len = 1 := hl.resolve_left (by simp [isSw]); exact ok_arraylength hd hn hw
  | astore k => obtain rfl : len = 2 := hl.resolve_left (by simp [isSw]); exact ok_stR (Nat.blt_eq.mp hi) (Or.inr ⟨hd, rfl⟩) hn hw
  | astore_n k => obtain rfl : len = 1 := hl.resolve_left (by simp [isSw]); exact ok_stR (Nat.blt_eq.mp hi) (Or.inl ⟨k, rfl, hd, rfl⟩) hn hw
  | baload => obtain rfl : len = 1 := hl.resolve_left (by simp [isSw]); exact ok_baload hd hn hw
  | bastore => obtain rfl : len = 1 := hl.resolve_left (by simp [isSw]); exact ok_bastore hd hn hw
  | bipush n => obtain rfl : len = 2 := hl.resolve_left (by simp [isSw]); exact ok_bipush hd (of_decide_eq_true hi) hn hw
  | caload => obtain rfl : len = 1 := hl.resolve_left (by simp [isSw]); exact ok_caload hd hn hw
  | castore => obtain rfl : len = 1 := hl.resolve_left (by simp [isSw]); exact ok_castore hd hn hw
  | dup => obtain rfl : len = 1 := hl.resolve_left (by simp [isSw]); exact ok_dup hd hn hw
  | dup2 => obtain rfl : len = 1 := hl.resolve_left (by simp [isSw]); exact ok_dup2 hd hn hw
  | goto o => obtain rfl : len = 3 := hl.resolve_left (by simp [isSw]); exact ok_goto hd (of_decide_eq_true hi) hj hw
  | i2c => obtain rfl : len = 1 := hl.resolve_left (by simp [isSw]); exact ok_i2c hd hn hw
  | i2l => obtain rfl : len = 1 := hl.resolve_left (by simp [isSw]); exact ok_i2l hd hn hw
  | iadd => obtain rfl : len = 1 := hl.resolve_left (by simp [isSw]); exact ok_iadd hd hn hw
  | iaload => obtain rfl : len = 1 := hl.resolve_left (by simp [isSw]); exact ok_iaload hd hn hw
  | iand => obtain rfl : len = 1 := hl.resolve_left (by simp [isSw]); exact ok_iand hd hn hw
  | iastore => obtain rfl : len = 1 := hl.resolve_left (by simp [isSw]); exact ok_iastore hd hn hw
  | iconst n => obtain rfl : len = 1 := hl.resolve_left (by simp [isSw]); exact ok_iconst hd (of_decide_eq_true hi) hn hw
  | idiv => obtain rfl : len = 1 := hl.resolve_left (by simp [isSw]); exact ok_idiv hd hn hw
  | if_icmp c o => obtain rfl : len = 3 := hl.resolve_left (by simp [isSw]); exact ok_if_icmp hd (of_decide_eq_true hi) hn hj hw
  | ifCond c o => obtain rfl : len = 3 := hl.resolve_left (by simp [isSw]); exact ok_ifCond hd (of_decide_eq_true hi) hn hj hw
  | iinc k n => obtain rfl : len = 3 := hl.resolve_left (by simp [isSw]); exact ok_iinc hd hn hw
  | iload k => obtain rfl : len = 2 := hl.resolve_left (by simp [isSw]); exact ok_ldI (Or.inr ⟨hd, rfl⟩) hn hw
  | iload_n k => obtain rfl : len = 1 := hl.resolve_left (by simp [isSw]); exact ok_ldI (Or.inl ⟨k, rfl, hd, rfl⟩) hn hw
  | imul => obtain rfl : len = 1 := hl.resolve_left (by simp [isSw]); exact ok_imul hd hn hw
  | ineg => obtain rfl : len = 1 := hl.resolve_left (by simp [isSw]); exact ok_ineg hd hn hw
  | ior => obtain rfl : len = 1 := hl.resolve_left (by simp [isSw]); exact ok_ior hd hn hw
  | irem => obtain rfl : len = 1 := hl.resolve_left (by simp [isSw]); exact ok_irem hd hn hw
  | ireturn => obtain rfl : len = 1 := hl.resolve_left (by simp [isSw]); exact ok_ireturn hd (of_decide_eq_true hi) hw
  | ishl => obtain rfl : len = 1 := hl.resolve_left (by simp [isSw]); exact ok_ishl hd hn hw
  | ishr => obtain rfl : len = 1 := hl.resolve_left (by simp [isSw]); exact ok_ishr hd hn hw
  | istore k => obtain rfl : len = 2 := hl.resolve_left (by simp [isSw]); exact ok_stI (Nat.blt_eq.mp hi) (Or.inr ⟨hd, rfl⟩) hn hw
  | istore_n k => obtain rfl : len = 1 := hl.resolve_left (by simp [isSw]); exact ok_stI (Nat.blt_eq.mp hi) (Or.inl ⟨k, rfl, hd, rfl⟩) hn hw
  | isub => obtain rfl : len = 1 := hl.resolve_left (by simp [isSw]); exact ok_isub hd hn hw
  | l2i => obtain rfl : len = 1 := hl.resolve_left (by simp [isSw]); exact ok_l2i hd hn hw
  | ladd => obtain rfl : len = 1 := hl.resolve_left (by simp [isSw]); exact ok_ladd hd hn hw
  | laload => obtain rfl : len = 1 := hl.resolve_left (by simp [isSw]); exact ok_laload hd hn hw
  | land => obtain rfl : len = 1 := hl.resolve_left (by simp [isSw]); exact ok_land hd hn hw
  | lastore => obtain rfl : len = 1 := hl.resolve_left (by simp [isSw]); exact ok_lastore hd hn hw
  | lcmp => obtain rfl : len = 1 := hl.resolve_left (by simp [isSw]); exact ok_lcmp hd hn hw
  | lconst n => obtain rfl : len = 1 := hl.resolve_left (by simp [isSw]); exact ok_lconst hd hn hw
  | ldiv => obtain rfl : len = 1 := hl.resolve_left (by simp [isSw]); exact ok_ldiv hd hn hw
  | lload k => obtain rfl : len = 2 := hl.resolve_left (by simp [isSw]); exact ok_ldJ (Or.inr ⟨hd, rfl⟩) hn hw
  | lload_n k => obtain rfl : len = 1 := hl.resolve_left (by simp [isSw]); exact ok_ldJ (Or.inl ⟨k, rfl, hd, rfl⟩) hn hw
  | lmul => obtain rfl : len = 1 := hl.resolve_left (by simp [isSw]); exact ok_lmul hd hn hw
  | lookupswitch dt ps =>
    simp only [iok, Bool.and_eq_true, decide_eq_true_eq, List.all_eq_true] at hi
    exact ok_lookupswitch hd (List.all_eq_true.mpr (by simpa using hi.2.2)) (offs_ge hi.1 ps.toList hi.2.1) hj hw
  | lor => obtain rfl : len = 1 := hl.resolve_left (by simp [isSw]); exact ok_lor hd hn hw
  | lrem => obtain rfl : len = 1 := hl.resolve_left (by simp [isSw]); exact ok_lrem hd hn hw
  | lreturn => obtain rfl : len = 1 := hl.resolve_left (by simp [isSw]); exact ok_lreturn hd (of_decide_eq_true hi) hw
  | lshl => obtain rfl : len = 1 := hl.resolve_left (by simp [isSw]); exact ok_lshl hd hn hw
  | lshr => obtain rfl : len = 1 := hl.resolve_left (by simp [isSw]); exact ok_lshr hd hn hw
  | lstore k => obtain rfl : len = 2 := hl.resolve_left (by simp [isSw]); exact ok_stJ (Nat.blt_eq.mp hi) (Or.inr ⟨hd, rfl⟩) hn hw
  | lstore_n k => obtain rfl : len = 1 := hl.resolve_left (by simp [isSw]); exact ok_stJ (Nat.blt_eq.mp hi) (Or.inl ⟨k, rfl, hd, rfl⟩) hn hw
  | lsub => obtain rfl : len = 1 := hl.resolve_left (by simp [isSw]); exact ok_lsub hd hn hw
  | return_ => obtain rfl : len = 1 := hl.resolve_left (by simp [isSw]); exact ok_return hd (of_decide_eq_true hi) hw
  | sipush n => obtain rfl : len = 3 := hl.resolve_left (by simp [isSw]); exact ok_sipush hd (of_decide_eq_true hi) hn hw
  | tableswitch dt lo hi' os =>
    simp only [iok, Bool.and_eq_true, decide_eq_true_eq, List.all_eq_true] at hi
    exact ok_tableswitch hd hi.1 hi.2.1 hi.2.2 hj hw
  | _ => exact absurd hw id
end WPOK
end
section
section WPX
variable {wd : WD} {d m pc len : Nat} {R : AR} {L : AL} {st : List AV} {h : AH} {nx : AL → List AV → AH → Prop} {jp : Nat → AL → List AV → AH → Prop}
theorem rcv_spec {cc : Nat} {as : List AV} {P : Prop} (hr : rcv wd cc as P) : P ∧ (cc ≠ 99 → ∃ k as', as = .inr (.inr k) :: as' ∧ ((cc = 8 ∧ isStr k = true) ∨ (cc ≠ 8 ∧ isOb wd k cc = true))) := by
  unfold rcv at hr
  split at hr
  · exact ⟨hr, fun q => absurd rfl q⟩
  · split at hr
    · obtain ⟨h1, h2⟩ := ob_spec hr
      exact ⟨h2, fun _ => ⟨_, _, rfl, Or.inl ⟨rfl, h1⟩⟩⟩
    · exact absurd hr id
  · split at hr
    · obtain ⟨h1, h2⟩ := ob_spec hr
      rename_i h8 _ _ _
      exact ⟨h2, fun _ => ⟨_, _, rfl, Or.inr ⟨h8, h1⟩⟩⟩
    · exact absurd hr id
theorem ok_call {idx x y w : Nat} {z : Int} (hck : ckC (mt m).1.cls (mt m).2.1 pc idx x y w = true) (hn : HN wd d m (pc + 3) R nx) (hw : wpX wd (calD wd d) R L st h nx (4, idx, x, y, w, z)) : At wd d m pc L st h R := by
  have hm : x < nM := by
    simp only [ckC, Bool.and_eq_true, Nat.blt_eq] at hck
    exact hck.1
  change wpC wd _ L st h nx x y z at hw
  unfold wpC at hw
  match hp : popN (y % 100) [] st, hw with
  | some (as, st'), hw =>
    obtain ⟨h1, h2⟩ := rcv_spec hw
    obtain ⟨h3, h4⟩ := ob_spec h1
    have hcat : catS st' ≤ 8 := Nat.ble_eq.mp h3
    match d, h4, hn with
    | 0, h4, _ => split at h4 <;> exact absurd h4 id
    | d' + 1, h4, hn =>
      split at h4
      · refine ok_call0 (cc := 0) hm hck hp hcat h2 h4 (fun o u hR _ => ?_)
        match o, hR with
        | none, hR => exact hn _ _ _ hR
      · refine ok_call0 (cc := 0) hm hck hp hcat h2 h4 (fun o u hR _ => ?_)
        match o, hR with
        | some (.inl v), hR => exact hn _ _ _ hR
      · refine ok_call0 (cc := 0) hm hck hp hcat h2 h4 (fun o u hR _ => ?_)
        match o, hR with
        | some (.inr (.inl v)), hR => exact hn _ _ _ hR
      · refine ok_call0 (cc := 0) hm hck hp hcat h2 h4 (fun o u hR _ => ?_)
        match o, hR with
        | some (.inr (.inr v)), hR => exact hn _ _ _ hR
theorem wpA_ok {a : AI} (hc : ckI (mt m) pc len a = true) (hn : HN wd d m (pc + len) R nx) (hj : HJ wd d m R jp) (hw : wpA wd d R pc L st h nx jp a) : At wd d m pc L st h R := by
  match a, hc, hw with
  | .inl i, hc, hw => exact wpP_ok hc hn hj hw
  | .inr (0, idx, x, y, w, z), hc, hw =>
    simp only [ckI, Bool.and_eq_true, decide_eq_true_eq, beq_iff_eq, Bool.not_eq_true'] at hc
    obtain ⟨rfl, hd, h1, h2⟩ := hc
    exact ok_getI (call := calD wd d) (x := x) (y := y) (w := w) (z := z) h1 h2 hd hn hw
  | .inr (1, idx, x, y, w, z), hc, hw =>
    simp only [ckI, Bool.and_eq_true, decide_eq_true_eq, beq_iff_eq] at hc
    obtain ⟨rfl, hd, h1, h2⟩ := hc
    exact ok_getR (call := calD wd d) (x := x) (y := y) (w := w) (z := z) h1 h2 hd hn hw
  | .inr (2, idx, x, y, w, z), hc, hw =>
    simp only [ckI, Bool.and_eq_true, decide_eq_true_eq, beq_iff_eq, Bool.not_eq_true'] at hc
    obtain ⟨rfl, hd, h1, h2, h3, h4⟩ := hc
    exact ok_putI (call := calD wd d) (x := x) (y := y) (w := w) (z := z) h1 h3 h2 h4 hd hn hw
  | .inr (3, idx, x, y, w, z), hc, hw =>
    simp only [ckI, Bool.and_eq_true, decide_eq_true_eq, beq_iff_eq, Bool.not_eq_true'] at hc
    obtain ⟨rfl, hd, h1, h2, h3, h4⟩ := hc
    exact ok_putZ (call := calD wd d) (x := x) (y := y) (w := w) (z := z) h1 h3 h2 h4 hd hn hw
  | .inr (4, idx, x, y, w, z), hc, hw =>
    simp only [ckI, Bool.and_eq_true, beq_iff_eq] at hc
    obtain ⟨rfl, h1⟩ := hc
    exact ok_call (z := z) h1 hn hw
  | .inr (5, idx, x, y, w, z), hc, hw =>
    simp only [ckI, Bool.and_eq_true, decide_eq_true_eq, beq_iff_eq] at hc
    obtain ⟨rfl, hd, h1, h2⟩ := hc
    exact ok_ldc2 (call := calD wd d) (x := x) (y := y) (w := w) (z := z) h1 h2 hd hn hw
  | .inr (6, idx, x, y, w, z), hc, hw =>
    simp only [ckI, Bool.and_eq_true, decide_eq_true_eq] at hc
    obtain ⟨⟨h1, h2⟩, h3⟩ := hc
    by_cases hx : x = 0
    · rw [if_pos hx] at h3
      simp only [Bool.and_eq_true, decide_eq_true_eq, beq_iff_eq] at h3
      obtain ⟨rfl, hd⟩ := h3
      exact ok_ldcI (call := calD wd d) (x := x) (y := y) (w := w) (z := z) h1 h2 (Or.inl ⟨hd, rfl⟩) hn hw
    · rw [if_neg hx] at h3
      simp only [Bool.and_eq_true, decide_eq_true_eq, beq_iff_eq] at h3
      obtain ⟨rfl, hd⟩ := h3
      exact ok_ldcI (call := calD wd d) (x := x) (y := y) (w := w) (z := z) h1 h2 (Or.inr ⟨hd, rfl⟩) hn hw
  | .inr (7, idx, x, y, w, z), hc, hw =>
    simp only [ckI, Bool.and_eq_true, decide_eq_true_eq, beq_iff_eq, Nat.blt_eq] at hc
    obtain ⟨rfl, hd, h1, h2, h3⟩ := hc
    exact ok_ldcS (call := calD wd d) (x := x) (y := y) (w := w) (z := z) h1 h2 h3 hd hn hw
  | .inr (8, idx, x, y, w, z), hc, hw =>
    simp only [ckI, Bool.and_eq_true, Bool.or_eq_true, decide_eq_true_eq, beq_iff_eq] at hc
    obtain ⟨rfl, hd, h1⟩ := hc
    exact ok_getF (call := calD wd d) (x := x) (y := y) (w := w) (z := z) h1 hd hn hw
  | .inr (10, idx, x, y, w, z), hc, hw =>
    simp only [ckI, Bool.and_eq_true, decide_eq_true_eq, beq_iff_eq] at hc
    obtain ⟨rfl, hd, h1⟩ := hc
    exact ok_getG (call := calD wd d) (x := x) (y := y) (w := w) (z := z) h1 hd hn hw
  | .inr (11, idx, x, y, w, z), hc, hw =>
    simp only [ckI, Bool.and_eq_true, decide_eq_true_eq, beq_iff_eq] at hc
    obtain ⟨rfl, hd, h1⟩ := hc
    exact ok_zreturn (ty := .int) (nx := nx) (call := calD wd d) (q := (idx, x, y, w, z)) hd h1 hw
  | .inr (9, idx, x, y, w, z), hc, hw => simp [ckI] at hc
  | .inr (12, idx, x, y, w, z), hc, hw => simp [ckI] at hc
  | .inr (13, idx, x, y, w, z), hc, hw =>
    simp only [ckI, Bool.and_eq_true, decide_eq_true_eq, beq_iff_eq] at hc
    obtain ⟨rfl, hd⟩ := hc
    exact ok_flen (call := calD wd d) (idx := idx) (x := x) (y := y) (w := w) (z := z) hd hn hw
  | .inr (n + 14, idx, x, y, w, z), hc, hw => simp [ckI] at hc
end WPX
/-- from a place on -/
def dTo (t : Nat) : CD → CD
  | [] => []
  | (pc, len, a) :: cs => bif Nat.beq pc t then (pc, len, a) :: cs else dTo t cs
def cutAt (t : Nat) : List (Nat × List Bool) → Option (List Bool)
  | [] => none
  | (p, bs) :: c => bif Nat.beq p t then some bs else cutAt t c
/-- the text of method m from where cs begins, up to the cut points -/
def wp (wd : WD) (d m : Nat) (cd : CD) (cut : List (Nat × List Bool)) (R : AR) : Nat → CD → AL → List AV → AH → Prop
  | 0, _, _, _, _ => False
  | _ + 1, [], _, _, _ => False
  | n + 1, (pc, _, a) :: cs, L, st, h => wpA wd d R pc L st h
      (fun L' st' h' => match cs with
        | [] => False
        | (pc', _, _) :: _ => (match cutAt pc' cut with
          | some bs => At wd d m pc' (lmk L' bs) st' h' R
          | none => wp wd d m cd cut R n cs L' st' h'))
      (fun t L' st' h' => match cutAt t cut with
        | some bs => At wd d m t (lmk L' bs) st' h' R
        | none => wp wd d m cd cut R n (dTo t cd) L' st' h') a
theorem At.mask {wd : WD} {d m pc : Nat} {L : AL} {bs : List Bool} {st : List AV} {h : AH} {R : AR} (hb : bs.length = (mt m).2.2.1) (hk : At wd d m pc (lmk L bs) st h R) : At wd d m pc L st h R := by
  intro p l e s mi args below meth c D aT ad A H locs ls C hP hD hS hH hL hs hlv
  exact hk p l e s mi args below meth c D aT ad A H locs ls C hP hD hS hH (fun i v hv => hL i v (lgt_lmk _ _ _ _ hv)) hs ⟨hlv.1, hlv.2.1, by rw [lmk_length _ _ (by rw [hb]; exact hlv.2.2.1)]; exact hlv.2.2.1, fun i v hv => hlv.2.2.2 i v (lgt_lmk _ _ _ _ hv)⟩
theorem dTo_ck {q : MI} : ∀ (cd : CD) (t : Nat), ckM q cd = true → ckM q (dTo t cd) = true
  | [], _, h => h
  | (pc, len, a) :: cs, t, h => by
    unfold dTo
    cases hb : Nat.beq pc t with
    | true => exact h
    | false =>
      simp only [ckM, Bool.and_eq_true] at h
      exact dTo_ck cs t h.2.2
theorem dTo_head : ∀ (cd : CD) (t pc len : Nat) (a : AI) (cs : CD), dTo t cd = (pc, len, a) :: cs → pc = t
  | [], _, _, _, _, _, h => by cases h
  | (pc0, len0, a0) :: cs0, t, pc, len, a, cs, h => by
    unfold dTo at h
    cases hb : Nat.beq pc0 t with
    | true =>
      rw [hb] at h
      cases h
      exact Nat.eq_of_beq_eq_true hb
    | false =>
      rw [hb] at h
      exact dTo_head cs0 t pc len a cs h
theorem cut_len {cut : List (Nat × List Bool)} {n t : Nat} {bs : List Bool} (hcut : cut.all (fun q => q.2.length == n) = true) (h : cutAt t cut = some bs) : bs.length = n := by
  induction cut with
  | nil => cases h
  | cons q cut ih =>
    simp only [List.all_cons, Bool.and_eq_true, beq_iff_eq] at hcut
    unfold cutAt at h
    cases hb : Nat.beq q.1 t with
    | true =>
      simp only [hb, cond_true] at h
      cases h
      exact hcut.1
    | false =>
      simp only [hb, cond_false] at h
      exact ih hcut.2 h
theorem wp_ok {wd : WD} {d m : Nat} {cd : CD} {cut : List (Nat × List Bool)} {R : AR} (hcd : ckM (mt m) cd = true) (hcut : cut.all (fun q => q.2.length == (mt m).2.2.1) = true) : ∀ (n : Nat) (cs : CD) (pc len : Nat) (a : AI) (cs' : CD) (L : AL) (st : List AV) (h : AH), cs = (pc, len, a) :: cs' → ckM (mt m) cs = true → wp wd d m cd cut R n cs L st h → At wd d m pc L st h R := by
  intro n
  induction n with
  | zero => intro cs pc len a cs' L st h _ _ hw; exact absurd hw id
  | succ n ih =>
    intro cs pc len a cs' L st h e hck hw
    subst e
    simp only [ckM, Bool.and_eq_true] at hck
    refine wpA_ok hck.1 ?_ ?_ hw
    · intro L' st' h' hx
      match cs', hck, hx with
      | (pc', len', a') :: cs'', hck, hx =>
        have hpc : pc' = pc + len := by simpa using hck.2.1
        subst hpc
        match hq : cutAt (pc + len) cut, hx with
        | some bs, hx =>
          have hx : At wd d m (pc + len) (lmk L' bs) st' h' R := by simpa [hq] using hx
          exact At.mask (cut_len hcut hq) hx
        | none, hx =>
          have hx : wp wd d m cd cut R n ((pc + len, len', a') :: cs'') L' st' h' := by simpa [hq] using hx
          exact ih _ _ _ _ _ L' st' h' rfl hck.2.2 hx
    · intro t L' st' h' hx
      match hq : cutAt t cut, hx with
      | some bs, hx =>
        have hx : At wd d m t (lmk L' bs) st' h' R := by simpa [hq] using hx
        exact At.mask (cut_len hcut hq) hx
      | none, hx =>
        have hx : wp wd d m cd cut R n (dTo t cd) L' st' h' := by simpa [hq] using hx
        match hd : dTo t cd with
        | [] =>
          rw [hd] at hx
          cases n with
          | zero => exact absurd hx id
          | succ n => exact absurd hx id
        | (pc1, len1, a1) :: cs1 =>
          have := dTo_head cd t pc1 len1 a1 cs1 hd
          subst this
          exact ih _ _ _ _ _ L' st' h' hd (dTo_ck cd _ hcd) hx
/-- the proof rule: at pc, by wp over the text from there -/
theorem At.wp {wd : WD} {d m pc : Nat} {L : AL} {h : AH} {R : AR} (n : Nat) (cd : CD) (cut : List (Nat × List Bool)) (hcd : ckM (mt m) cd = true) (hcut : cut.all (fun q => q.2.length == (mt m).2.2.1) = true) (hpc : ∃ len a cs, dTo pc cd = (pc, len, a) :: cs) (hw : wp wd d m cd cut R n (dTo pc cd) L [] h) : At wd d m pc L [] h R := by
  obtain ⟨len, a, cs, e⟩ := hpc
  exact wp_ok hcd hcut n (dTo pc cd) pc len a cs L [] h e (dTo_ck cd pc hcd) hw
/-- the locals at a method's entry -/
def enL : List AV → AL
  | [] => []
  | .inl z :: as => some (.inl z) :: enL as
  | .inr (.inl z) :: as => some (.inr (.inl z)) :: none :: enL as
  | .inr (.inr k) :: as => some (.inr (.inr k)) :: enL as
def padL : Nat → AL → AL
  | 0, _ => []
  | n + 1, [] => none :: padL n []
  | n + 1, v :: L => v :: padL n L
theorem padL_len : ∀ (n : Nat) (L : AL), (padL n L).length = n
  | 0, _ => rfl
  | n + 1, [] => by simp [padL, padL_len n []]
  | n + 1, v :: L => by simp [padL, padL_len n L]
theorem lgt_padL : ∀ (n : Nat) (L : AL) (i : Nat) (v : AV), lgt (padL n L) i = some v → lgt L i = some v
  | 0, _, _, _, h => by cases h
  | n + 1, [], 0, v, h => by cases h
  | n + 1, [], i + 1, v, h => by have := lgt_padL n [] i v h; cases this
  | n + 1, u :: L, 0, v, h => h
  | n + 1, u :: L, i + 1, v, h => lgt_padL n L i v h
theorem enL_len (ad : Nat → Nat) : ∀ as : List AV, (enL as).length = (lg_sl (as.map (cv ad))).length
  | [] => rfl
  | .inl z :: as => by
    show (enL as).length + 1 = (lg_sl (as.map (cv ad))).length + 1
    rw [enL_len ad as]
  | .inr (.inl z) :: as => by
    show (enL as).length + 1 + 1 = (lg_sl (as.map (cv ad))).length + 1 + 1
    rw [enL_len ad as]
  | .inr (.inr k) :: as => by
    show (enL as).length + 1 = (lg_sl (as.map (cv ad))).length + 1
    rw [enL_len ad as]
theorem enL_at (ad : Nat → Nat) : ∀ (as : List AV) (i j : Nat) (v : AV), lgt (enL as) i = some v → (j + i, cv ad v) ∈ lv_args j (as.map (cv ad))
  | [], _, _, _, h => by cases h
  | .inl z :: as, 0, j, v, h => by cases h; simp [lv_args, cv]
  | .inr (.inl z) :: as, 0, j, v, h => by cases h; simp [lv_args, cv]
  | .inr (.inr k) :: as, 0, j, v, h => by cases h; simp [lv_args, cv]
  | .inl z :: as, i + 1, j, v, h => by
    have := enL_at ad as i (j + 1) v h
    rw [show j + 1 + i = j + (i + 1) by omega] at this
    exact List.mem_cons_of_mem _ this
  | .inr (.inr k) :: as, i + 1, j, v, h => by
    have := enL_at ad as i (j + 1) v h
    rw [show j + 1 + i = j + (i + 1) by omega] at this
    exact List.mem_cons_of_mem _ this
  | .inr (.inl z) :: as, 1, j, v, h => by cases h
  | .inr (.inl z) :: as, i + 2, j, v, h => by
    have := enL_at ad as i (j + 2) v h
    rw [show j + 2 + i = j + (i + 2) by omega] at this
    exact List.mem_cons_of_mem _ this
theorem enL_ok : ∀ (as : List AV) (i : Nat) (v : AV), lgt (enL as) i = some v → v ∈ as
  | [], _, _, h => by cases h
  | .inl z :: as, 0, v, h => by cases h; simp
  | .inr (.inl z) :: as, 0, v, h => by cases h; simp
  | .inr (.inr k) :: as, 0, v, h => by cases h; simp
  | .inl z :: as, i + 1, v, h => List.mem_cons_of_mem _ (enL_ok as i v h)
  | .inr (.inr k) :: as, i + 1, v, h => List.mem_cons_of_mem _ (enL_ok as i v h)
  | .inr (.inl z) :: as, 1, v, h => by cases h
  | .inr (.inl z) :: as, i + 2, v, h => List.mem_cons_of_mem _ (enL_ok as i v h)
/-- a method's contract, from its entry -/
theorem Call.of {wd : WD} {d m : Nat} {as : List AV} {h : AH} {R : AR} (hm : m < nM) (hl : (enL as).length ≤ (mt m).2.2.1) (k : At wd d m 0 (padL (mt m).2.2.1 (enL as)) [] h R) : Call wd d m as h R := by
  intro l D aT ad sz
  obtain ⟨f1, f2, f3, f4, f5, f6, f7⟩ := mt_facts hm
  refine Met.ofW (cc := (mt m).2.1) (maxL := (mt m).2.2.1) (ret := (mt m).2.2.2) f7 rfl ?_
  intro p e s mi args below meth c s₁ B hml hv
  obtain ⟨rfl, hsz, hP, hK, hD0, hH, hoka, hSt⟩ := hv
  subst hsz
  have hD := hD0.self (sz := s.heap.size)
  have hA : ∀ q : Nat, s.heap.size ≤ q → va_A (wsO wd aT ad h) s.heap.size q := fun q h => Or.inr h
  have hl2 : (lg_sl (as.map (cv ad))).length ≤ (mt m).2.2.1 := by rw [← enL_len]; exact hl
  have hl3 := lv_entry (as.map (cv ad)) (n := (mt m).2.2.1) hl2
  rw [lg_entry_eq]
  refine k p l e s mi _ below meth c D aT ad _ s.heap [] _ ⟨B.exec, B.bytes, B.returns, hml, findClass_of_methodNamed B.named, atoms_spec (ws := wsM m) B.pre, B.notSynchronized, hA, hK, hSt⟩ hP hD va_S.rf hH (fun i v hv => hoka v (enL_ok as i v (lgt_padL _ _ _ _ hv))) (fun v hv => by cases hv) (lvP.of hl3 (padL_len _ _) (fun i v hv => ?_))
  have := enL_at ad as i 0 v (lgt_padL _ _ _ _ hv)
  rwa [Nat.zero_add] at this
end
section
/-! the texts of the class's methods, checked against their bytes -/
def kX7_feed : CD := [
  (0, 1, .inl (.aload_n 0)), (1, 3, .inr (1, 14, 6, 0, 1224, 0)), (4, 3, .inr (4, 73, 168, 201, 2022, 1)), (7, 3, .inl (.sipush 1040)), (10, 3, .inl (.if_icmp .lt 5)), (13, 1, .inl (.iconst 0)),
  (14, 1, .inr (11, 0, 0, 0, 0, 0)), (15, 1, .inl (.aload_n 0)), (16, 1, .inl (.iload_n 1)), (17, 3, .inr (4, 77, 1, 602, 2026, 0)), (20, 1, .inl (.aload_n 0)), (21, 1, .inl (.iload_n 2)),
  (22, 3, .inr (4, 77, 1, 602, 2026, 0)), (25, 1, .inl (.aload_n 0)), (26, 1, .inl (.iload_n 3)), (27, 3, .inr (4, 77, 1, 602, 2026, 0)), (30, 1, .inl (.aload_n 0)), (31, 2, .inl (.iload 4)),
  (33, 3, .inr (4, 77, 1, 602, 2026, 0)), (36, 1, .inl (.aload_n 0)), (37, 2, .inl (.iload 5)), (39, 3, .inr (4, 77, 1, 602, 2026, 0)), (42, 1, .inl (.iconst 1)), (43, 1, .inr (11, 0, 0, 0, 0, 0))]
set_option maxRecDepth 100000 in
theorem okX7_feed : ckM (mt mX7_feed) kX7_feed = true := by decide +kernel
def kX7_putBytes : CD := [
  (0, 2, .inl (.bipush 24)), (2, 1, .inl (.istore_n 2)), (3, 1, .inl (.iload_n 2)), (4, 3, .inl (.ifCond .lt 23)), (7, 1, .inl (.aload_n 0)), (8, 3, .inr (1, 14, 6, 0, 1224, 0)),
  (11, 1, .inl (.iload_n 1)), (12, 1, .inl (.iload_n 2)), (13, 1, .inl .ishr), (14, 3, .inl (.sipush 255)), (17, 1, .inl .iand), (18, 3, .inr (4, 80, 171, 202, 2030, 0)),
  (21, 3, .inl (.iinc 2 (-8))), (24, 3, .inl (.goto (-21))), (27, 1, .inl .return_)]
set_option maxRecDepth 100000 in
theorem okX7_putBytes : ckM (mt mX7_putBytes) kX7_putBytes = true := by decide +kernel
def kX7_end : CD := [
  (0, 1, .inl (.iload_n 1)), (1, 3, .inl (.ifCond .lt 21)), (4, 1, .inl (.iload_n 1)), (5, 1, .inl (.aload_n 0)), (6, 3, .inr (1, 14, 6, 0, 1224, 0)), (9, 3, .inr (4, 73, 168, 201, 2022, 1)),
  (12, 3, .inl (.if_icmp .gt 10)), (15, 1, .inl (.iload_n 1)), (16, 3, .inl (.sipush 1024)), (19, 3, .inl (.if_icmp .le 5)), (22, 1, .inl (.iconst 0)), (23, 1, .inr (11, 0, 0, 0, 0, 0)),
  (24, 1, .inl (.aload_n 0)), (25, 3, .inr (1, 14, 6, 0, 1224, 0)), (28, 1, .inl (.iload_n 1)), (29, 3, .inr (4, 83, 175, 202, 2035, 0)), (32, 1, .inl (.aload_n 0)), (33, 3, .inr (1, 18, 6, 1, 1225, 0)),
  (36, 1, .inl (.aload_n 0)), (37, 3, .inr (1, 14, 6, 0, 1224, 0)), (40, 3, .inr (4, 86, 178, 202, 2039, 0)), (43, 1, .inl (.aload_n 0)), (44, 3, .inr (1, 14, 6, 0, 1224, 0)), (47, 3, .inr (4, 90, 177, 201, 2048, 0)),
  (50, 1, .inl (.iconst 1)), (51, 1, .inr (11, 0, 0, 0, 0, 0))]
set_option maxRecDepth 100000 in
theorem okX7_end : ckM (mt mX7_end) kX7_end = true := by decide +kernel
def kX7_illAt : CD := [
  (0, 1, .inl (.aload_n 0)), (1, 3, .inr (0, 69, 6, 10, 1234, 0)), (4, 1, .inl .ireturn)]
set_option maxRecDepth 100000 in
theorem okX7_illAt : ckM (mt mX7_illAt) kX7_illAt = true := by decide +kernel
def kX7_word : CD := [
  (0, 1, .inl (.aload_n 0)), (1, 3, .inr (1, 36, 6, 5, 1229, 0)), (4, 1, .inl (.iload_n 1)), (5, 3, .inr (4, 138, 169, 202, 2060, 1)), (8, 1, .inl .ireturn)]
set_option maxRecDepth 100000 in
theorem okX7_word : ckM (mt mX7_word) kX7_word = true := by decide +kernel
def kX7_names : CD := [
  (0, 1, .inl (.aload_n 0)), (1, 3, .inr (1, 30, 6, 3, 1227, 0)), (4, 3, .inr (4, 104, 195, 501, 2065, 1)), (7, 1, .inl .ireturn)]
set_option maxRecDepth 100000 in
theorem okX7_names : ckM (mt mX7_names) kX7_names = true := by decide +kernel
def kX7_name : CD := [
  (0, 1, .inl (.aload_n 0)), (1, 3, .inr (1, 30, 6, 3, 1227, 0)), (4, 1, .inl (.iload_n 1)), (5, 1, .inl (.iload_n 2)), (6, 3, .inr (4, 142, 198, 503, 2073, 1)), (9, 1, .inl .ireturn)]
set_option maxRecDepth 100000 in
theorem okX7_name : ckM (mt mX7_name) kX7_name = true := by decide +kernel
def kX7_reference : CD := [
  (0, 1, .inl (.iload_n 1)), (1, 3, .inl (.ifCond .lt 12)), (4, 1, .inl (.iload_n 2)), (5, 3, .inl (.ifCond .lt 8)), (8, 1, .inl (.iload_n 2)), (9, 1, .inl (.iconst 4)),
  (10, 3, .inl (.if_icmp .le 5)), (13, 1, .inl (.iconst (-1))), (14, 1, .inl .ireturn), (15, 1, .inl (.iconst 0)), (16, 1, .inl (.istore_n 3)), (17, 1, .inl (.iconst 0)),
  (18, 2, .inl (.istore 4)), (20, 2, .inl (.iload 4)), (22, 1, .inl (.aload_n 0)), (23, 3, .inr (1, 36, 6, 5, 1229, 0)), (26, 3, .inr (4, 73, 168, 201, 2022, 1)), (29, 3, .inl (.if_icmp .ge 67)),
  (32, 1, .inl (.aload_n 0)), (33, 3, .inr (1, 36, 6, 5, 1229, 0)), (36, 2, .inl (.iload 4)), (38, 3, .inr (4, 138, 169, 202, 2060, 1)), (41, 3, .inr (4, 146, 24, 9901, 2082, 1)), (44, 2, .inl (.istore 5)),
  (46, 2, .inl (.iload 5)), (48, 1, .inl (.iconst 4)), (49, 3, .inl (.if_icmp .eq 9)), (52, 2, .inl (.iload 5)), (54, 1, .inl (.iconst 5)), (55, 3, .inl (.if_icmp .ne 21)),
  (58, 1, .inl (.iload_n 3)), (59, 1, .inl (.iload_n 1)), (60, 3, .inl (.if_icmp .ne 13)), (63, 1, .inl (.aload_n 0)), (64, 2, .inl (.iload 5)), (66, 2, .inl (.iload 4)),
  (68, 1, .inl (.iload_n 2)), (69, 3, .inr (4, 149, 8, 604, 2085, 1)), (72, 1, .inl .ireturn), (73, 3, .inl (.iinc 3 1)), (76, 2, .inl (.iload 4)), (78, 1, .inl (.aload_n 0)),
  (79, 3, .inr (1, 36, 6, 5, 1229, 0)), (82, 2, .inl (.iload 4)), (84, 3, .inr (4, 138, 169, 202, 2060, 1)), (87, 3, .inr (4, 153, 26, 9901, 2089, 1)), (90, 1, .inl .iadd), (91, 2, .inl (.istore 4)),
  (93, 3, .inl (.goto (-73))), (96, 1, .inl (.iconst (-1))), (97, 1, .inl .ireturn)]
set_option maxRecDepth 100000 in
theorem okX7_reference : ckM (mt mX7_reference) kX7_reference = true := by decide +kernel
def kX7_referencePart : CD := [
  (0, 1, .inl (.iload_n 1)), (1, 1, .inl (.iconst 4)), (2, 3, .inl (.if_icmp .ne 12)), (5, 1, .inl (.iload_n 3)), (6, 1, .inl (.iconst 2)), (7, 3, .inl (.if_icmp .le 7)),
  (10, 1, .inl (.iconst 1)), (11, 3, .inl (.goto 4)), (14, 1, .inl (.iconst 0)), (15, 2, .inl (.istore 4)), (17, 1, .inl (.aload_n 0)), (18, 3, .inr (1, 36, 6, 5, 1229, 0)),
  (21, 1, .inl (.iload_n 2)), (22, 1, .inl (.iconst 1)), (23, 1, .inl .iadd), (24, 2, .inl (.iload 4)), (26, 3, .inl (.ifCond .eq 9)), (29, 1, .inl (.iload_n 3)),
  (30, 1, .inl (.iconst 2)), (31, 1, .inl .isub), (32, 3, .inl (.goto 4)), (35, 1, .inl (.iload_n 3)), (36, 1, .inl .iadd), (37, 3, .inr (4, 138, 169, 202, 2060, 1)),
  (40, 1, .inl .ireturn)]
set_option maxRecDepth 100000 in
theorem okX7_referencePart : ckM (mt mX7_referencePart) kX7_referencePart = true := by decide +kernel
def kX7_print : CD := [
  (0, 1, .inl (.aload_n 0)), (1, 3, .inr (1, 36, 6, 5, 1229, 0)), (4, 3, .inr (4, 73, 168, 201, 2022, 1)), (7, 3, .inl (.ifCond .ne 5)), (10, 1, .inl (.iconst 0)), (11, 1, .inl .ireturn),
  (12, 1, .inl (.aload_n 0)), (13, 3, .inr (1, 65, 6, 9, 1233, 0)), (16, 3, .inr (4, 156, 123, 1, 2099, 0)), (19, 1, .inl (.aload_n 0)), (20, 3, .inr (1, 65, 6, 9, 1233, 0)), (23, 3, .inr (4, 159, 121, 1, 3061, 1)),
  (26, 1, .inl .ireturn)]
set_option maxRecDepth 100000 in
theorem okX7_print : ckM (mt mX7_print) kX7_print = true := by decide +kernel
def kX7_output : CD := [
  (0, 1, .inl (.aload_n 0)), (1, 3, .inr (1, 65, 6, 9, 1233, 0)), (4, 1, .inl (.iload_n 1)), (5, 3, .inr (4, 160, 122, 2, 3070, 1)), (8, 1, .inl .ireturn)]
set_option maxRecDepth 100000 in
theorem okX7_output : ckM (mt mX7_output) kX7_output = true := by decide +kernel
def kX7_again : CD := [
  (0, 1, .inl (.aload_n 0)), (1, 3, .inr (1, 18, 6, 1, 1225, 0)), (4, 3, .inr (4, 90, 177, 201, 2048, 0)), (7, 1, .inl (.iconst 0)), (8, 1, .inl (.istore_n 1)), (9, 1, .inl (.iload_n 1)),
  (10, 1, .inl (.aload_n 0)), (11, 3, .inr (1, 65, 6, 9, 1233, 0)), (14, 3, .inr (4, 159, 121, 1, 3061, 1)), (17, 3, .inl (.if_icmp .ge 31)), (20, 1, .inl (.iload_n 1)), (21, 3, .inl (.sipush 1024)),
  (24, 3, .inl (.if_icmp .ge 24)), (27, 1, .inl (.aload_n 0)), (28, 3, .inr (1, 18, 6, 1, 1225, 0)), (31, 1, .inl (.aload_n 0)), (32, 3, .inr (1, 65, 6, 9, 1233, 0)), (35, 1, .inl (.iload_n 1)),
  (36, 3, .inr (4, 160, 122, 2, 3070, 1)), (39, 3, .inr (4, 80, 171, 202, 2030, 0)), (42, 3, .inl (.iinc 1 1)), (45, 3, .inl (.goto (-36))), (48, 1, .inl .return_)]
set_option maxRecDepth 100000 in
theorem okX7_again : ckM (mt mX7_again) kX7_again = true := by decide +kernel
def kX7_isPlain : CD := [
  (0, 1, .inl (.iconst 0)), (1, 1, .inl (.istore_n 1)), (2, 1, .inl (.iload_n 1)), (3, 1, .inl (.aload_n 0)), (4, 3, .inr (4, 73, 168, 201, 2022, 1)), (7, 3, .inl (.if_icmp .ge 31)),
  (10, 1, .inl (.aload_n 0)), (11, 1, .inl (.iload_n 1)), (12, 3, .inr (4, 138, 169, 202, 2060, 1)), (15, 2, .inl (.bipush 32)), (17, 3, .inl (.if_icmp .lt 13)), (20, 1, .inl (.aload_n 0)),
  (21, 1, .inl (.iload_n 1)), (22, 3, .inr (4, 138, 169, 202, 2060, 1)), (25, 2, .inl (.bipush 126)), (27, 3, .inl (.if_icmp .le 5)), (30, 1, .inl (.iconst 0)), (31, 1, .inr (11, 0, 0, 0, 0, 0)),
  (32, 3, .inl (.iinc 1 1)), (35, 3, .inl (.goto (-33))), (38, 1, .inl (.iconst 1)), (39, 1, .inr (11, 0, 0, 0, 0, 0))]
set_option maxRecDepth 100000 in
theorem okX7_isPlain : ckM (mt mX7_isPlain) kX7_isPlain = true := by decide +kernel
def kX7_isDigit : CD := [
  (0, 1, .inl (.iload_n 0)), (1, 2, .inl (.bipush 48)), (3, 3, .inl (.if_icmp .lt 13)), (6, 1, .inl (.iload_n 0)), (7, 2, .inl (.bipush 57)), (9, 3, .inl (.if_icmp .gt 7)),
  (12, 1, .inl (.iconst 1)), (13, 3, .inl (.goto 4)), (16, 1, .inl (.iconst 0)), (17, 1, .inr (11, 0, 0, 0, 0, 0))]
set_option maxRecDepth 100000 in
theorem okX7_isDigit : ckM (mt mX7_isDigit) kX7_isDigit = true := by decide +kernel
def kX7_isLetter : CD := [
  (0, 1, .inl (.iload_n 0)), (1, 2, .inl (.bipush 65)), (3, 3, .inl (.if_icmp .lt 9)), (6, 1, .inl (.iload_n 0)), (7, 2, .inl (.bipush 90)), (9, 3, .inl (.if_icmp .le 15)),
  (12, 1, .inl (.iload_n 0)), (13, 2, .inl (.bipush 97)), (15, 3, .inl (.if_icmp .lt 13)), (18, 1, .inl (.iload_n 0)), (19, 2, .inl (.bipush 122)), (21, 3, .inl (.if_icmp .gt 7)),
  (24, 1, .inl (.iconst 1)), (25, 3, .inl (.goto 4)), (28, 1, .inl (.iconst 0)), (29, 1, .inr (11, 0, 0, 0, 0, 0))]
set_option maxRecDepth 100000 in
theorem okX7_isLetter : ckM (mt mX7_isLetter) kX7_isLetter = true := by decide +kernel
def kX7_isWordPart : CD := [
  (0, 1, .inl (.iload_n 0)), (1, 2, .inl (.bipush 65)), (3, 3, .inl (.if_icmp .lt 9)), (6, 1, .inl (.iload_n 0)), (7, 2, .inl (.bipush 90)), (9, 3, .inl (.if_icmp .le 39)),
  (12, 1, .inl (.iload_n 0)), (13, 2, .inl (.bipush 97)), (15, 3, .inl (.if_icmp .lt 9)), (18, 1, .inl (.iload_n 0)), (19, 2, .inl (.bipush 122)), (21, 3, .inl (.if_icmp .le 27)),
  (24, 1, .inl (.iload_n 0)), (25, 2, .inl (.bipush 48)), (27, 3, .inl (.if_icmp .lt 9)), (30, 1, .inl (.iload_n 0)), (31, 2, .inl (.bipush 57)), (33, 3, .inl (.if_icmp .le 15)),
  (36, 1, .inl (.iload_n 0)), (37, 2, .inl (.bipush 95)), (39, 3, .inl (.if_icmp .eq 9)), (42, 1, .inl (.iload_n 0)), (43, 2, .inl (.bipush 46)), (45, 3, .inl (.if_icmp .ne 7)),
  (48, 1, .inl (.iconst 1)), (49, 3, .inl (.goto 4)), (52, 1, .inl (.iconst 0)), (53, 1, .inr (11, 0, 0, 0, 0, 0))]
set_option maxRecDepth 100000 in
theorem okX7_isWordPart : ckM (mt mX7_isWordPart) kX7_isWordPart = true := by decide +kernel
def kX7_capital : CD := [
  (0, 1, .inl (.iload_n 0)), (1, 2, .inl (.bipush 97)), (3, 3, .inl (.if_icmp .lt 16)), (6, 1, .inl (.iload_n 0)), (7, 2, .inl (.bipush 122)), (9, 3, .inl (.if_icmp .gt 10)),
  (12, 1, .inl (.iload_n 0)), (13, 2, .inl (.bipush 32)), (15, 1, .inl .isub), (16, 3, .inl (.goto 4)), (19, 1, .inl (.iload_n 0)), (20, 1, .inl .ireturn)]
set_option maxRecDepth 100000 in
theorem okX7_capital : ckM (mt mX7_capital) kX7_capital = true := by decide +kernel
def kX7_wordEnd : CD := [
  (0, 1, .inl (.iload_n 1)), (1, 1, .inl (.istore_n 2)), (2, 1, .inl (.aload_n 0)), (3, 1, .inl (.iload_n 2)), (4, 3, .inr (4, 138, 169, 202, 2060, 1)), (7, 3, .inr (4, 162, 14, 9901, 3189, 1)),
  (10, 3, .inl (.ifCond .ne 13)), (13, 1, .inl (.aload_n 0)), (14, 1, .inl (.iload_n 2)), (15, 3, .inr (4, 138, 169, 202, 2060, 1)), (18, 2, .inl (.bipush 95)), (20, 3, .inl (.if_icmp .ne 28)),
  (23, 1, .inl (.iload_n 2)), (24, 1, .inl (.aload_n 0)), (25, 3, .inr (4, 73, 168, 201, 2022, 1)), (28, 3, .inl (.if_icmp .ge 20)), (31, 1, .inl (.aload_n 0)), (32, 1, .inl (.iload_n 2)),
  (33, 3, .inr (4, 138, 169, 202, 2060, 1)), (36, 3, .inr (4, 166, 15, 9901, 3192, 1)), (39, 3, .inl (.ifCond .eq 9)), (42, 3, .inl (.iinc 2 1)), (45, 3, .inl (.goto (-22))), (48, 1, .inl (.iload_n 2)),
  (49, 1, .inl .ireturn)]
set_option maxRecDepth 100000 in
theorem okX7_wordEnd : ckM (mt mX7_wordEnd) kX7_wordEnd = true := by decide +kernel
def kX7_startsWith : CD := [
  (0, 1, .inl (.iconst 0)), (1, 1, .inl (.istore_n 3)), (2, 1, .inl (.iload_n 3)), (3, 1, .inl (.aload_n 2)), (4, 3, .inr (4, 169, 203, 801, 3199, 1)), (7, 3, .inl (.if_icmp .ge 29)),
  (10, 1, .inl (.aload_n 0)), (11, 1, .inl (.iload_n 1)), (12, 1, .inl (.iload_n 3)), (13, 1, .inl .iadd), (14, 3, .inr (4, 138, 169, 202, 2060, 1)), (17, 3, .inr (4, 174, 16, 9901, 3203, 1)),
  (20, 1, .inl (.aload_n 2)), (21, 1, .inl (.iload_n 3)), (22, 3, .inr (4, 177, 204, 802, 3204, 1)), (25, 3, .inl (.if_icmp .eq 5)), (28, 1, .inl (.iconst 0)), (29, 1, .inr (11, 0, 0, 0, 0, 0)),
  (30, 3, .inl (.iinc 3 1)), (33, 3, .inl (.goto (-31))), (36, 1, .inl (.iconst 1)), (37, 1, .inr (11, 0, 0, 0, 0, 0))]
set_option maxRecDepth 100000 in
theorem okX7_startsWith : ckM (mt mX7_startsWith) kX7_startsWith = true := by decide +kernel
def kX7_isSame : CD := [
  (0, 1, .inl (.iload_n 2)), (1, 1, .inl (.iload_n 1)), (2, 1, .inl .isub), (3, 1, .inl (.aload_n 3)), (4, 3, .inr (4, 169, 203, 801, 3199, 1)), (7, 3, .inl (.if_icmp .ne 16)),
  (10, 1, .inl (.aload_n 0)), (11, 1, .inl (.iload_n 1)), (12, 1, .inl (.aload_n 3)), (13, 3, .inr (4, 181, 18, 9903, 3200, 1)), (16, 3, .inl (.ifCond .eq 7)), (19, 1, .inl (.iconst 1)),
  (20, 3, .inl (.goto 4)), (23, 1, .inl (.iconst 0)), (24, 1, .inr (11, 0, 0, 0, 0, 0))]
set_option maxRecDepth 100000 in
theorem okX7_isSame : ckM (mt mX7_isSame) kX7_isSame = true := by decide +kernel
def kX7_functionNumber : CD := [
  (0, 1, .inl (.iconst 0)), (1, 1, .inl (.istore_n 3)), (2, 1, .inl (.iload_n 3)), (3, 3, .inr (8, 185, 0, 0, 4115, 0)), (6, 1, .inr (13, 0, 0, 0, 0, 0)), (7, 3, .inl (.if_icmp .ge 28)),
  (10, 1, .inl (.aload_n 0)), (11, 1, .inl (.iload_n 1)), (12, 1, .inl (.iload_n 2)), (13, 3, .inr (8, 185, 0, 0, 4115, 0)), (16, 1, .inl (.iload_n 3)), (17, 1, .inl .aaload),
  (18, 3, .inr (10, 189, 0, 0, 7193, 0)), (21, 3, .inr (4, 195, 19, 9904, 4116, 1)), (24, 3, .inl (.ifCond .eq 5)), (27, 1, .inl (.iload_n 3)), (28, 1, .inl .ireturn), (29, 3, .inl (.iinc 3 1)),
  (32, 3, .inl (.goto (-30))), (35, 1, .inl (.iconst (-1))), (36, 1, .inl .ireturn)]
set_option maxRecDepth 100000 in
theorem okX7_functionNumber : ckM (mt mX7_functionNumber) kX7_functionNumber = true := by decide +kernel
def kX7_errorText : CD := [
  (0, 1, .inl (.iload_n 0)), (1, 43, .inl (.tableswitch 64 1 7 #[43, 46, 49, 52, 55, 58, 61])), (44, 2, .inr (7, 199, 10, 0, 2225, 0)), (46, 1, .inl .areturn), (47, 2, .inr (7, 201, 11, 0, 2226, 0)), (49, 1, .inl .areturn),
  (50, 2, .inr (7, 203, 12, 0, 2227, 0)), (52, 1, .inl .areturn), (53, 2, .inr (7, 205, 13, 0, 2228, 0)), (55, 1, .inl .areturn), (56, 2, .inr (7, 207, 14, 0, 2229, 0)), (58, 1, .inl .areturn),
  (59, 2, .inr (7, 209, 15, 0, 2230, 0)), (61, 1, .inl .areturn), (62, 2, .inr (7, 211, 16, 0, 2231, 0)), (64, 1, .inl .areturn), (65, 2, .inr (7, 213, 17, 0, 2232, 0)), (67, 1, .inl .areturn)]
set_option maxRecDepth 100000 in
theorem okX7_errorText : ckM (mt mX7_errorText) kX7_errorText = true := by decide +kernel
def kX7_operationText : CD := [
  (0, 1, .inl (.iload_n 0)), (1, 79, .inl (.tableswitch 127 0 15 #[79, 82, 85, 88, 91, 94, 97, 100, 103, 106, 109, 112, 115, 118, 121, 124])), (80, 2, .inr (7, 215, 22, 0, 3025, 0)), (82, 1, .inl .areturn), (83, 2, .inr (7, 217, 23, 0, 3026, 0)), (85, 1, .inl .areturn),
  (86, 2, .inr (7, 219, 24, 0, 3027, 0)), (88, 1, .inl .areturn), (89, 2, .inr (7, 221, 25, 0, 3028, 0)), (91, 1, .inl .areturn), (92, 2, .inr (7, 223, 26, 0, 3029, 0)), (94, 1, .inl .areturn),
  (95, 2, .inr (7, 225, 27, 0, 3030, 0)), (97, 1, .inl .areturn), (98, 2, .inr (7, 227, 28, 0, 3031, 0)), (100, 1, .inl .areturn), (101, 2, .inr (7, 229, 29, 0, 3032, 0)), (103, 1, .inl .areturn),
  (104, 2, .inr (7, 231, 30, 0, 3033, 0)), (106, 1, .inl .areturn), (107, 2, .inr (7, 233, 31, 0, 3034, 0)), (109, 1, .inl .areturn), (110, 2, .inr (7, 235, 32, 0, 3035, 0)), (112, 1, .inl .areturn),
  (113, 2, .inr (7, 237, 33, 0, 3036, 0)), (115, 1, .inl .areturn), (116, 2, .inr (7, 239, 34, 0, 3037, 0)), (118, 1, .inl .areturn), (119, 2, .inr (7, 231, 30, 0, 3033, 0)), (121, 1, .inl .areturn),
  (122, 2, .inr (7, 229, 29, 0, 3032, 0)), (124, 1, .inl .areturn), (125, 2, .inr (7, 241, 35, 0, 3038, 0)), (127, 1, .inl .areturn), (128, 2, .inr (7, 213, 17, 0, 2232, 0)), (130, 1, .inl .areturn)]
set_option maxRecDepth 100000 in
theorem okX7_operationText : ckM (mt mX7_operationText) kX7_operationText = true := by decide +kernel
def kX7_item : CD := [
  (0, 1, .inl (.iload_n 0)), (1, 2, .inl (.bipush 16)), (3, 1, .inl (.iload_n 1)), (4, 1, .inl .imul), (5, 1, .inl .iadd), (6, 1, .inl .ireturn)]
set_option maxRecDepth 100000 in
theorem okX7_item : ckM (mt mX7_item) kX7_item = true := by decide +kernel
def kX7_kindOf : CD := [
  (0, 1, .inl (.iload_n 0)), (1, 2, .inl (.bipush 15)), (3, 1, .inl .iand), (4, 1, .inl .ireturn)]
set_option maxRecDepth 100000 in
theorem okX7_kindOf : ckM (mt mX7_kindOf) kX7_kindOf = true := by decide +kernel
def kX7_xOf : CD := [
  (0, 1, .inl (.iload_n 0)), (1, 1, .inl (.iconst 4)), (2, 1, .inl .ishr), (3, 1, .inl .ireturn)]
set_option maxRecDepth 100000 in
theorem okX7_xOf : ckM (mt mX7_xOf) kX7_xOf = true := by decide +kernel
def kX7_itemSize : CD := [
  (0, 1, .inl (.iload_n 0)), (1, 3, .inr (4, 146, 24, 9901, 2082, 1)), (4, 64, .inl (.tableswitch 82 0 11 #[64, 66, 82, 82, 64, 77, 82, 82, 80, 82, 82, 80])), (68, 1, .inl (.iconst 4)), (69, 1, .inl .ireturn), (70, 1, .inl (.iconst 1)),
  (71, 1, .inl (.iload_n 0)), (72, 3, .inr (4, 243, 25, 9901, 2092, 1)), (75, 1, .inl (.iconst 3)), (76, 1, .inl .iadd), (77, 1, .inl (.iconst 4)), (78, 1, .inl .idiv),
  (79, 1, .inl .iadd), (80, 1, .inl .ireturn), (81, 2, .inl (.bipush 6)), (83, 1, .inl .ireturn), (84, 1, .inl (.iconst 2)), (85, 1, .inl .ireturn),
  (86, 1, .inl (.iconst 1)), (87, 1, .inl .ireturn)]
set_option maxRecDepth 100000 in
theorem okX7_itemSize : ckM (mt mX7_itemSize) kX7_itemSize = true := by decide +kernel
def kX1_size : CD := [
  (0, 1, .inl (.aload_n 0)), (1, 3, .inr (1, 45, 0, 9, 1199, 0)), (4, 1, .inl .arraylength), (5, 1, .inl (.aload_n 0)), (6, 3, .inr (0, 49, 0, 10, 1200, 0)), (9, 1, .inl .isub),
  (10, 1, .inl .ireturn)]
set_option maxRecDepth 100000 in
theorem okX1_size : ckM (mt mX1_size) kX1_size = true := by decide +kernel
def kX1_letter : CD := [
  (0, 1, .inl (.iload_n 1)), (1, 3, .inl (.ifCond .lt 11)), (4, 1, .inl (.iload_n 1)), (5, 1, .inl (.aload_n 0)), (6, 3, .inr (4, 53, 121, 1, 3074, 1)), (9, 3, .inl (.if_icmp .lt 5)),
  (12, 1, .inl (.iconst 0)), (13, 1, .inl .ireturn), (14, 1, .inl (.aload_n 0)), (15, 3, .inr (0, 49, 0, 10, 1200, 0)), (18, 1, .inl (.iload_n 1)), (19, 1, .inl .iadd),
  (20, 1, .inl (.istore_n 2)), (21, 1, .inl (.iload_n 2)), (22, 3, .inl (.ifCond .lt 21)), (25, 1, .inl (.iload_n 2)), (26, 1, .inl (.aload_n 0)), (27, 3, .inr (1, 45, 0, 9, 1199, 0)),
  (30, 1, .inl .arraylength), (31, 3, .inl (.if_icmp .ge 12)), (34, 1, .inl (.aload_n 0)), (35, 3, .inr (1, 45, 0, 9, 1199, 0)), (38, 1, .inl (.iload_n 2)), (39, 1, .inl .iaload),
  (40, 3, .inl (.goto 4)), (43, 1, .inl (.iconst 0)), (44, 1, .inl .ireturn)]
set_option maxRecDepth 100000 in
theorem okX1_letter : ckM (mt mX1_letter) kX1_letter = true := by decide +kernel
def kX1_run : CD := [
  (0, 1, .inl (.aload_n 0)), (1, 1, .inl (.aload_n 0)), (2, 3, .inr (1, 45, 0, 9, 1199, 0)), (5, 1, .inl .arraylength), (6, 3, .inr (2, 49, 0, 10, 1200, 0)), (9, 1, .inl (.aload_n 0)),
  (10, 3, .inr (1, 33, 0, 5, 1195, 0)), (13, 3, .inr (4, 57, 177, 201, 2103, 0)), (16, 1, .inl (.aload_n 0)), (17, 3, .inr (1, 36, 0, 6, 1196, 0)), (20, 3, .inr (4, 57, 177, 201, 2103, 0)), (23, 1, .inl (.aload_n 0)),
  (24, 3, .inr (1, 30, 0, 4, 1194, 0)), (27, 3, .inr (4, 57, 177, 201, 2103, 0)), (30, 1, .inl (.iconst 0)), (31, 1, .inl (.istore_n 1)), (32, 1, .inl (.iload_n 1)), (33, 1, .inl (.aload_n 0)),
  (34, 3, .inr (1, 9, 0, 0, 1190, 0)), (37, 3, .inr (4, 60, 168, 201, 2104, 1)), (40, 3, .inl (.if_icmp .ge 28)), (43, 1, .inl (.aload_n 0)), (44, 3, .inr (1, 30, 0, 4, 1194, 0)), (47, 1, .inl (.iload_n 1)),
  (48, 3, .inr (4, 61, 171, 202, 2105, 0)), (51, 1, .inl (.iload_n 1)), (52, 1, .inl (.aload_n 0)), (53, 3, .inr (1, 9, 0, 0, 1190, 0)), (56, 1, .inl (.iload_n 1)), (57, 3, .inr (4, 64, 169, 202, 2106, 1)),
  (60, 3, .inr (4, 68, 26, 9901, 2107, 1)), (63, 1, .inl .iadd), (64, 1, .inl (.istore_n 1)), (65, 3, .inl (.goto (-33))), (68, 1, .inl (.aload_n 0)), (69, 3, .inr (1, 30, 0, 4, 1194, 0)),
  (72, 3, .inr (4, 60, 168, 201, 2104, 1)), (75, 1, .inl (.iconst 1)), (76, 1, .inl .isub), (77, 1, .inl (.istore_n 1)), (78, 1, .inl (.iload_n 1)), (79, 3, .inl (.ifCond .lt 69)),
  (82, 1, .inl (.aload_n 0)), (83, 3, .inr (1, 30, 0, 4, 1194, 0)), (86, 1, .inl (.iload_n 1)), (87, 3, .inr (4, 64, 169, 202, 2106, 1)), (90, 1, .inl (.istore_n 2)), (91, 1, .inl (.aload_n 0)),
  (92, 1, .inl (.iload_n 2)), (93, 3, .inr (4, 71, 127, 2, 2108, 0)), (96, 1, .inl (.aload_n 0)), (97, 3, .inr (4, 74, 124, 1, 2169, 0)), (100, 1, .inl (.aload_n 0)), (101, 1, .inl (.iload_n 2)),
  (102, 3, .inr (4, 77, 126, 2, 2173, 1)), (105, 1, .inl (.istore_n 3)), (106, 1, .inl (.iload_n 3)), (107, 3, .inl (.ifCond .le 22)), (110, 1, .inl (.aload_n 0)), (111, 3, .inr (1, 33, 0, 5, 1195, 0)),
  (114, 1, .inl (.iload_n 2)), (115, 3, .inr (4, 61, 171, 202, 2105, 0)), (118, 1, .inl (.aload_n 0)), (119, 3, .inr (1, 36, 0, 6, 1196, 0)), (122, 1, .inl (.iload_n 3)), (123, 3, .inr (4, 61, 171, 202, 2105, 0)),
  (126, 3, .inl (.goto 16)), (129, 1, .inl (.aload_n 0)), (130, 1, .inl (.iload_n 2)), (131, 3, .inr (4, 80, 129, 2, 2177, 0)), (134, 1, .inl (.aload_n 0)), (135, 3, .inr (4, 74, 124, 1, 2169, 0)),
  (138, 1, .inl (.aload_n 0)), (139, 3, .inr (4, 83, 125, 1, 3045, 0)), (142, 3, .inl (.iinc 1 (-1))), (145, 3, .inl (.goto (-67))), (148, 1, .inl (.aload_n 0)), (149, 3, .inr (1, 39, 0, 7, 1197, 0)),
  (152, 2, .inl (.bipush 61)), (154, 3, .inr (4, 61, 171, 202, 2105, 0)), (157, 1, .inl (.aload_n 0)), (158, 3, .inr (4, 74, 124, 1, 2169, 0)), (161, 1, .inl .return_)]
set_option maxRecDepth 100000 in
theorem okX1_run : ckM (mt mX1_run) kX1_run = true := by decide +kernel
def kX1_putPiece : CD := [
  (0, 1, .inl (.aload_n 0)), (1, 3, .inr (1, 39, 0, 7, 1197, 0)), (4, 3, .inr (4, 60, 168, 201, 2104, 1)), (7, 1, .inl (.iconst 1)), (8, 1, .inl .isub), (9, 1, .inl (.istore_n 1)),
  (10, 1, .inl (.iload_n 1)), (11, 3, .inl (.ifCond .lt 48)), (14, 1, .inl (.aload_n 0)), (15, 3, .inr (0, 49, 0, 10, 1200, 0)), (18, 1, .inl (.iconst 1)), (19, 1, .inl .isub),
  (20, 1, .inl (.istore_n 2)), (21, 1, .inl (.iload_n 2)), (22, 3, .inl (.ifCond .lt 31)), (25, 1, .inl (.iload_n 2)), (26, 1, .inl (.aload_n 0)), (27, 3, .inr (1, 45, 0, 9, 1199, 0)),
  (30, 1, .inl .arraylength), (31, 3, .inl (.if_icmp .ge 22)), (34, 1, .inl (.aload_n 0)), (35, 3, .inr (1, 45, 0, 9, 1199, 0)), (38, 1, .inl (.iload_n 2)), (39, 1, .inl (.aload_n 0)),
  (40, 3, .inr (1, 39, 0, 7, 1197, 0)), (43, 1, .inl (.iload_n 1)), (44, 3, .inr (4, 64, 169, 202, 2106, 1)), (47, 1, .inl .iastore), (48, 1, .inl (.aload_n 0)), (49, 1, .inl (.iload_n 2)),
  (50, 3, .inr (2, 49, 0, 10, 1200, 0)), (53, 3, .inl (.iinc 1 (-1))), (56, 3, .inl (.goto (-46))), (59, 1, .inl (.aload_n 0)), (60, 3, .inr (1, 39, 0, 7, 1197, 0)), (63, 3, .inr (4, 57, 177, 201, 2103, 0)),
  (66, 1, .inl .return_)]
set_option maxRecDepth 100000 in
theorem okX1_putPiece : ckM (mt mX1_putPiece) kX1_putPiece = true := by decide +kernel
def kX1_endOperand : CD := [
  (0, 1, .inl (.aload_n 0)), (1, 3, .inr (1, 33, 0, 5, 1195, 0)), (4, 3, .inr (4, 60, 168, 201, 2104, 1)), (7, 1, .inl (.istore_n 1)), (8, 1, .inl (.iload_n 1)), (9, 3, .inl (.ifCond .le 73)),
  (12, 1, .inl (.aload_n 0)), (13, 3, .inr (1, 36, 0, 6, 1196, 0)), (16, 3, .inr (4, 86, 170, 201, 2195, 1)), (19, 1, .inl (.iconst 1)), (20, 1, .inl .isub), (21, 1, .inl (.istore_n 2)),
  (22, 1, .inl (.aload_n 0)), (23, 3, .inr (1, 33, 0, 5, 1195, 0)), (26, 3, .inr (4, 86, 170, 201, 2195, 1)), (29, 1, .inl (.istore_n 3)), (30, 1, .inl (.iload_n 2)), (31, 3, .inl (.ifCond .le 22)),
  (34, 1, .inl (.aload_n 0)), (35, 3, .inr (1, 36, 0, 6, 1196, 0)), (38, 1, .inl (.iload_n 2)), (39, 3, .inr (4, 89, 172, 202, 3049, 0)), (42, 1, .inl (.aload_n 0)), (43, 1, .inl (.iload_n 3)),
  (44, 1, .inl (.iload_n 2)), (45, 3, .inr (4, 92, 128, 3, 3053, 0)), (48, 1, .inl (.aload_n 0)), (49, 3, .inr (4, 74, 124, 1, 2169, 0)), (52, 1, .inl .return_), (53, 1, .inl (.aload_n 0)),
  (54, 3, .inr (1, 33, 0, 5, 1195, 0)), (57, 3, .inr (4, 96, 176, 201, 3057, 0)), (60, 1, .inl (.aload_n 0)), (61, 3, .inr (1, 36, 0, 6, 1196, 0)), (64, 3, .inr (4, 96, 176, 201, 3057, 0)), (67, 1, .inl (.aload_n 0)),
  (68, 1, .inl (.iload_n 3)), (69, 3, .inr (4, 80, 129, 2, 2177, 0)), (72, 1, .inl (.aload_n 0)), (73, 3, .inr (4, 74, 124, 1, 2169, 0)), (76, 3, .inl (.iinc 1 (-1))), (79, 3, .inl (.goto (-71))),
  (82, 1, .inl .return_)]
set_option maxRecDepth 100000 in
theorem okX1_endOperand : ckM (mt mX1_endOperand) kX1_endOperand = true := by decide +kernel
def kX1_operandsOf : CD := [
  (0, 1, .inl (.aload_n 0)), (1, 3, .inr (1, 9, 0, 0, 1190, 0)), (4, 1, .inl (.iload_n 1)), (5, 3, .inr (4, 64, 169, 202, 2106, 1)), (8, 3, .inr (4, 99, 25, 9901, 2112, 1)), (11, 1, .inl (.istore_n 2)),
  (12, 1, .inl (.aload_n 0)), (13, 3, .inr (1, 9, 0, 0, 1190, 0)), (16, 1, .inl (.iload_n 1)), (17, 3, .inr (4, 64, 169, 202, 2106, 1)), (20, 3, .inr (4, 102, 24, 9901, 2113, 1)), (23, 29, .inl (.tableswitch 61 8 11 #[29, 42, 54, 59])),
  (52, 1, .inl (.iload_n 2)), (53, 1, .inl (.aload_n 0)), (54, 3, .inr (1, 9, 0, 0, 1190, 0)), (57, 1, .inl (.iload_n 1)), (58, 1, .inl (.iconst 1)), (59, 1, .inl .iadd),
  (60, 3, .inr (4, 64, 169, 202, 2106, 1)), (63, 1, .inl .imul), (64, 1, .inl .ireturn), (65, 1, .inl (.iload_n 2)), (66, 2, .inl (.bipush 11)), (68, 3, .inl (.if_icmp .gt 7)),
  (71, 1, .inl (.iconst 2)), (72, 3, .inl (.goto 4)), (75, 1, .inl (.iconst 1)), (76, 1, .inl .ireturn), (77, 1, .inl (.iload_n 2)), (78, 2, .inl (.bipush 64)),
  (80, 1, .inl .irem), (81, 1, .inl .ireturn), (82, 1, .inl (.iload_n 2)), (83, 1, .inl .ireturn), (84, 1, .inl (.iconst 0)), (85, 1, .inl .ireturn)]
set_option maxRecDepth 100000 in
theorem okX1_operandsOf : ckM (mt mX1_operandsOf) kX1_operandsOf = true := by decide +kernel
def kX1_writeClosing : CD := [
  (0, 1, .inl (.aload_n 0)), (1, 3, .inr (1, 9, 0, 0, 1190, 0)), (4, 1, .inl (.iload_n 1)), (5, 3, .inr (4, 64, 169, 202, 2106, 1)), (8, 3, .inr (4, 99, 25, 9901, 2112, 1)), (11, 1, .inl (.istore_n 2)),
  (12, 1, .inl (.aload_n 0)), (13, 3, .inr (1, 9, 0, 0, 1190, 0)), (16, 1, .inl (.iload_n 1)), (17, 3, .inr (4, 64, 169, 202, 2106, 1)), (20, 3, .inr (4, 102, 24, 9901, 2113, 1)), (23, 29, .inl (.tableswitch 87 8 11 #[29, 53, 41, 41])),
  (52, 1, .inl (.aload_n 0)), (53, 3, .inr (1, 39, 0, 7, 1197, 0)), (56, 2, .inl (.bipush 125)), (58, 3, .inr (4, 61, 171, 202, 2105, 0)), (61, 3, .inl (.goto 49)), (64, 1, .inl (.aload_n 0)),
  (65, 3, .inr (1, 39, 0, 7, 1197, 0)), (68, 2, .inl (.bipush 41)), (70, 3, .inr (4, 61, 171, 202, 2105, 0)), (73, 3, .inl (.goto 37)), (76, 1, .inl (.aload_n 0)), (77, 3, .inr (1, 39, 0, 7, 1197, 0)),
  (80, 1, .inl (.iload_n 2)), (81, 2, .inl (.bipush 15)), (83, 3, .inl (.if_icmp .ne 8)), (86, 2, .inr (7, 105, 0, 0, 2114, 0)), (88, 3, .inl (.goto 16)), (91, 1, .inl (.iload_n 2)),
  (92, 2, .inl (.bipush 12)), (94, 3, .inl (.if_icmp .ne 8)), (97, 2, .inr (7, 107, 1, 0, 2115, 0)), (99, 3, .inl (.goto 5)), (102, 2, .inr (7, 109, 2, 0, 2116, 0)), (104, 3, .inr (4, 111, 173, 202, 2117, 0)),
  (107, 3, .inl (.goto 3)), (110, 1, .inl .return_)]
set_option maxRecDepth 100000 in
theorem okX1_writeClosing : ckM (mt mX1_writeClosing) kX1_writeClosing = true := by decide +kernel
def kX1_writeBetween : CD := [
  (0, 1, .inl (.aload_n 0)), (1, 3, .inr (1, 9, 0, 0, 1190, 0)), (4, 1, .inl (.iload_n 1)), (5, 3, .inr (4, 64, 169, 202, 2106, 1)), (8, 1, .inl (.istore_n 3)), (9, 1, .inl (.iload_n 3)),
  (10, 3, .inr (4, 102, 24, 9901, 2113, 1)), (13, 2, .inl (.bipush 9)), (15, 3, .inl (.if_icmp .ne 18)), (18, 1, .inl (.aload_n 0)), (19, 3, .inr (1, 39, 0, 7, 1197, 0)), (22, 1, .inl (.iload_n 3)),
  (23, 3, .inr (4, 99, 25, 9901, 2112, 1)), (26, 3, .inr (4, 115, 22, 9901, 3022, 3)), (29, 3, .inr (4, 111, 173, 202, 2117, 0)), (32, 1, .inl .return_), (33, 1, .inl (.iload_n 3)), (34, 3, .inr (4, 102, 24, 9901, 2113, 1)),
  (37, 2, .inl (.bipush 8)), (39, 3, .inl (.if_icmp .ne 16)), (42, 1, .inl (.aload_n 0)), (43, 3, .inr (1, 9, 0, 0, 1190, 0)), (46, 1, .inl (.iload_n 1)), (47, 1, .inl (.iconst 1)),
  (48, 1, .inl .iadd), (49, 3, .inr (4, 64, 169, 202, 2106, 1)), (52, 3, .inl (.goto 4)), (55, 1, .inl (.iconst 0)), (56, 2, .inl (.istore 4)), (58, 1, .inl (.aload_n 0)),
  (59, 3, .inr (1, 39, 0, 7, 1197, 0)), (62, 2, .inl (.iload 4)), (64, 3, .inl (.ifCond .le 15)), (67, 1, .inl (.iload_n 2)), (68, 2, .inl (.iload 4)), (70, 1, .inl .irem),
  (71, 3, .inl (.ifCond .ne 8)), (74, 2, .inl (.bipush 59)), (76, 3, .inl (.goto 5)), (79, 2, .inl (.bipush 44)), (81, 3, .inr (4, 61, 171, 202, 2105, 0)), (84, 1, .inl .return_)]
set_option maxRecDepth 100000 in
theorem okX1_writeBetween : ckM (mt mX1_writeBetween) kX1_writeBetween = true := by decide +kernel
def kX1_writeOpening : CD := [
  (0, 1, .inl (.aload_n 0)), (1, 3, .inr (1, 9, 0, 0, 1190, 0)), (4, 1, .inl (.iload_n 1)), (5, 3, .inr (4, 64, 169, 202, 2106, 1)), (8, 3, .inr (4, 99, 25, 9901, 2112, 1)), (11, 1, .inl (.istore_n 2)),
  (12, 1, .inl (.aload_n 0)), (13, 3, .inr (1, 9, 0, 0, 1190, 0)), (16, 1, .inl (.iload_n 1)), (17, 3, .inr (4, 64, 169, 202, 2106, 1)), (20, 3, .inr (4, 102, 24, 9901, 2113, 1)), (23, 61, .inl (.tableswitch 269 0 11 #[61, 70, 79, 101, 115, 166, 175, 269, 183, 195, 232, 243])),
  (84, 1, .inl (.aload_n 0)), (85, 1, .inl (.iload_n 1)), (86, 1, .inl (.iload_n 2)), (87, 3, .inr (4, 119, 137, 3, 2181, 0)), (90, 3, .inl (.goto 202)), (93, 1, .inl (.aload_n 0)),
  (94, 1, .inl (.iload_n 1)), (95, 1, .inl (.iload_n 2)), (96, 3, .inr (4, 122, 132, 3, 2216, 0)), (99, 3, .inl (.goto 193)), (102, 1, .inl (.aload_n 0)), (103, 3, .inr (1, 39, 0, 7, 1197, 0)),
  (106, 1, .inl (.iload_n 2)), (107, 1, .inl (.iconst 1)), (108, 3, .inl (.if_icmp .ne 8)), (111, 2, .inr (7, 125, 8, 0, 2220, 0)), (113, 3, .inl (.goto 5)), (116, 2, .inr (7, 127, 9, 0, 2221, 0)),
  (118, 3, .inr (4, 111, 173, 202, 2117, 0)), (121, 3, .inl (.goto 171)), (124, 1, .inl (.aload_n 0)), (125, 3, .inr (1, 39, 0, 7, 1197, 0)), (128, 1, .inl (.iload_n 2)), (129, 3, .inr (4, 129, 21, 9901, 2222, 3)),
  (132, 3, .inr (4, 111, 173, 202, 2117, 0)), (135, 3, .inl (.goto 157)), (138, 1, .inl (.aload_n 0)), (139, 1, .inl (.aload_n 0)), (140, 3, .inr (1, 9, 0, 0, 1190, 0)), (143, 1, .inl (.iload_n 1)),
  (144, 1, .inl (.iconst 1)), (145, 1, .inl .iadd), (146, 3, .inr (4, 64, 169, 202, 2106, 1)), (149, 3, .inr (4, 132, 133, 2, 2233, 0)), (152, 1, .inl (.aload_n 0)), (153, 1, .inl (.iload_n 2)),
  (154, 1, .inl (.iconst 1)), (155, 1, .inl .iand), (156, 1, .inl (.aload_n 0)), (157, 3, .inr (1, 9, 0, 0, 1190, 0)), (160, 1, .inl (.iload_n 1)), (161, 1, .inl (.iconst 3)),
  (162, 1, .inl .iadd), (163, 3, .inr (4, 64, 169, 202, 2106, 1)), (166, 3, .inr (4, 135, 134, 3, 3005, 0)), (169, 1, .inl (.aload_n 0)), (170, 1, .inl (.iload_n 2)), (171, 1, .inl (.iconst 2)),
  (172, 1, .inl .iand), (173, 1, .inl (.aload_n 0)), (174, 3, .inr (1, 9, 0, 0, 1190, 0)), (177, 1, .inl (.iload_n 1)), (178, 1, .inl (.iconst 2)), (179, 1, .inl .iadd),
  (180, 3, .inr (4, 64, 169, 202, 2106, 1)), (183, 3, .inr (4, 138, 135, 3, 3010, 0)), (186, 3, .inl (.goto 106)), (189, 1, .inl (.aload_n 0)), (190, 1, .inl (.iload_n 1)), (191, 1, .inl (.iload_n 2)),
  (192, 3, .inr (4, 141, 136, 3, 3014, 0)), (195, 3, .inl (.goto 97)), (198, 1, .inl (.aload_n 0)), (199, 1, .inl (.iload_n 2)), (200, 3, .inr (4, 144, 131, 2, 3018, 0)), (203, 3, .inl (.goto 89)),
  (206, 1, .inl (.aload_n 0)), (207, 3, .inr (1, 39, 0, 7, 1197, 0)), (210, 2, .inl (.bipush 123)), (212, 3, .inr (4, 61, 171, 202, 2105, 0)), (215, 3, .inl (.goto 77)), (218, 1, .inl (.aload_n 0)),
  (219, 3, .inr (1, 39, 0, 7, 1197, 0)), (222, 1, .inl (.iload_n 2)), (223, 2, .inl (.bipush 13)), (225, 3, .inl (.if_icmp .eq 15)), (228, 1, .inl (.iload_n 2)), (229, 2, .inl (.bipush 14)),
  (231, 3, .inl (.if_icmp .eq 9)), (234, 1, .inl (.iload_n 2)), (235, 2, .inl (.bipush 15)), (237, 3, .inl (.if_icmp .ne 10)), (240, 1, .inl (.iload_n 2)), (241, 3, .inr (4, 115, 22, 9901, 3022, 3)),
  (244, 3, .inl (.goto 5)), (247, 2, .inr (7, 109, 2, 0, 2116, 0)), (249, 3, .inr (4, 111, 173, 202, 2117, 0)), (252, 3, .inl (.goto 40)), (255, 1, .inl (.aload_n 0)), (256, 1, .inl (.iload_n 2)),
  (257, 2, .inl (.bipush 64)), (259, 1, .inl .idiv), (260, 3, .inr (4, 147, 130, 2, 3039, 0)), (263, 3, .inl (.goto 29)), (266, 1, .inl (.aload_n 0)), (267, 1, .inl (.aload_n 0)),
  (268, 3, .inr (1, 9, 0, 0, 1190, 0)), (271, 1, .inl (.iload_n 1)), (272, 1, .inl (.iconst 1)), (273, 1, .inl .iadd), (274, 3, .inr (4, 64, 169, 202, 2106, 1)), (277, 3, .inr (4, 144, 131, 2, 3018, 0)),
  (280, 1, .inl (.aload_n 0)), (281, 3, .inr (1, 39, 0, 7, 1197, 0)), (284, 2, .inl (.bipush 40)), (286, 3, .inr (4, 61, 171, 202, 2105, 0)), (289, 3, .inl (.goto 3)), (292, 1, .inl .return_)]
set_option maxRecDepth 100000 in
theorem okX1_writeOpening : ckM (mt mX1_writeOpening) kX1_writeOpening = true := by decide +kernel
def kX1_writeFunction : CD := [
  (0, 1, .inl (.iload_n 1)), (1, 3, .inl (.ifCond .lt 26)), (4, 1, .inl (.iload_n 1)), (5, 3, .inr (8, 150, 0, 0, 3043, 0)), (8, 1, .inr (13, 0, 0, 0, 0, 0)), (9, 3, .inl (.if_icmp .ge 18)),
  (12, 1, .inl (.aload_n 0)), (13, 3, .inr (1, 39, 0, 7, 1197, 0)), (16, 3, .inr (8, 150, 0, 0, 3043, 0)), (19, 1, .inl (.iload_n 1)), (20, 1, .inl .aaload), (21, 3, .inr (10, 154, 0, 0, 7194, 0)),
  (24, 3, .inr (4, 111, 173, 202, 2117, 0)), (27, 1, .inl (.aload_n 0)), (28, 3, .inr (1, 39, 0, 7, 1197, 0)), (31, 2, .inl (.bipush 40)), (33, 3, .inr (4, 61, 171, 202, 2105, 0)), (36, 1, .inl .return_)]
set_option maxRecDepth 100000 in
theorem okX1_writeFunction : ckM (mt mX1_writeFunction) kX1_writeFunction = true := by decide +kernel
def kX1_writeName : CD := [
  (0, 1, .inl (.iconst 0)), (1, 1, .inl (.istore_n 2)), (2, 1, .inl (.iload_n 2)), (3, 1, .inl (.aload_n 0)), (4, 3, .inr (1, 19, 0, 2, 1192, 0)), (7, 1, .inl (.iload_n 1)),
  (8, 3, .inr (4, 160, 197, 502, 2238, 1)), (11, 3, .inl (.if_icmp .ge 25)), (14, 1, .inl (.aload_n 0)), (15, 3, .inr (1, 39, 0, 7, 1197, 0)), (18, 1, .inl (.aload_n 0)), (19, 3, .inr (1, 19, 0, 2, 1192, 0)),
  (22, 1, .inl (.iload_n 1)), (23, 1, .inl (.iload_n 2)), (24, 3, .inr (4, 165, 198, 503, 3002, 1)), (27, 3, .inr (4, 61, 171, 202, 2105, 0)), (30, 3, .inl (.iinc 2 1)), (33, 3, .inl (.goto (-31))),
  (36, 1, .inl .return_)]
set_option maxRecDepth 100000 in
theorem okX1_writeName : ckM (mt mX1_writeName) kX1_writeName = true := by decide +kernel
def kX1_writeString : CD := [
  (0, 1, .inl (.aload_n 0)), (1, 3, .inr (1, 39, 0, 7, 1197, 0)), (4, 2, .inl (.bipush 34)), (6, 3, .inr (4, 61, 171, 202, 2105, 0)), (9, 1, .inl (.iconst 0)), (10, 1, .inl (.istore_n 3)),
  (11, 1, .inl (.iload_n 3)), (12, 1, .inl (.iload_n 2)), (13, 3, .inl (.if_icmp .ge 64)), (16, 1, .inl (.aload_n 0)), (17, 3, .inr (1, 9, 0, 0, 1190, 0)), (20, 1, .inl (.iload_n 1)),
  (21, 1, .inl (.iconst 1)), (22, 1, .inl .iadd), (23, 1, .inl (.iload_n 3)), (24, 1, .inl (.iconst 4)), (25, 1, .inl .idiv), (26, 1, .inl .iadd),
  (27, 3, .inr (4, 64, 169, 202, 2106, 1)), (30, 2, .inl (.bipush 24)), (32, 1, .inl (.iload_n 3)), (33, 1, .inl (.iconst 4)), (34, 1, .inl .irem), (35, 2, .inl (.bipush 8)),
  (37, 1, .inl .imul), (38, 1, .inl .isub), (39, 1, .inl .ishr), (40, 3, .inl (.sipush 255)), (43, 1, .inl .iand), (44, 2, .inl (.istore 4)),
  (46, 1, .inl (.aload_n 0)), (47, 3, .inr (1, 39, 0, 7, 1197, 0)), (50, 2, .inl (.iload 4)), (52, 3, .inr (4, 61, 171, 202, 2105, 0)), (55, 2, .inl (.iload 4)), (57, 2, .inl (.bipush 34)),
  (59, 3, .inl (.if_icmp .ne 12)), (62, 1, .inl (.aload_n 0)), (63, 3, .inr (1, 39, 0, 7, 1197, 0)), (66, 2, .inl (.iload 4)), (68, 3, .inr (4, 61, 171, 202, 2105, 0)), (71, 3, .inl (.iinc 3 1)),
  (74, 3, .inl (.goto (-63))), (77, 1, .inl (.aload_n 0)), (78, 3, .inr (1, 39, 0, 7, 1197, 0)), (81, 2, .inl (.bipush 34)), (83, 3, .inr (4, 61, 171, 202, 2105, 0)), (86, 1, .inl .return_)]
set_option maxRecDepth 100000 in
theorem okX1_writeString : ckM (mt mX1_writeString) kX1_writeString = true := by decide +kernel
def kX1_writeSheet : CD := [
  (0, 1, .inl (.iload_n 1)), (1, 1, .inl (.iconst (-1))), (2, 3, .inl (.if_icmp .ne 4)), (5, 1, .inl .return_), (6, 1, .inl (.aload_n 0)), (7, 3, .inr (1, 22, 0, 3, 1193, 0)),
  (10, 1, .inl (.iload_n 1)), (11, 3, .inr (4, 64, 169, 202, 2106, 1)), (14, 1, .inl (.iconst 1)), (15, 3, .inl (.if_icmp .ne 7)), (18, 1, .inl (.iconst 1)), (19, 3, .inl (.goto 4)),
  (22, 1, .inl (.iconst 0)), (23, 1, .inl (.istore_n 2)), (24, 1, .inl (.aload_n 0)), (25, 3, .inr (1, 39, 0, 7, 1197, 0)), (28, 1, .inl (.iload_n 2)), (29, 3, .inl (.ifCond .eq 8)),
  (32, 2, .inr (7, 169, 18, 0, 2237, 0)), (34, 3, .inl (.goto 5)), (37, 2, .inr (7, 109, 2, 0, 2116, 0)), (39, 3, .inr (4, 111, 173, 202, 2117, 0)), (42, 1, .inl (.iconst 0)), (43, 1, .inl (.istore_n 3)),
  (44, 1, .inl (.iload_n 3)), (45, 1, .inl (.aload_n 0)), (46, 3, .inr (1, 15, 0, 1, 1191, 0)), (49, 1, .inl (.iload_n 1)), (50, 3, .inr (4, 160, 197, 502, 2238, 1)), (53, 3, .inl (.if_icmp .ge 45)),
  (56, 1, .inl (.aload_n 0)), (57, 3, .inr (1, 15, 0, 1, 1191, 0)), (60, 1, .inl (.iload_n 1)), (61, 1, .inl (.iload_n 3)), (62, 3, .inr (4, 165, 198, 503, 3002, 1)), (65, 2, .inl (.istore 4)),
  (67, 1, .inl (.aload_n 0)), (68, 3, .inr (1, 39, 0, 7, 1197, 0)), (71, 2, .inl (.iload 4)), (73, 3, .inr (4, 61, 171, 202, 2105, 0)), (76, 2, .inl (.iload 4)), (78, 2, .inl (.bipush 39)),
  (80, 3, .inl (.if_icmp .ne 12)), (83, 1, .inl (.aload_n 0)), (84, 3, .inr (1, 39, 0, 7, 1197, 0)), (87, 2, .inl (.iload 4)), (89, 3, .inr (4, 61, 171, 202, 2105, 0)), (92, 3, .inl (.iinc 3 1)),
  (95, 3, .inl (.goto (-51))), (98, 1, .inl (.aload_n 0)), (99, 3, .inr (1, 39, 0, 7, 1197, 0)), (102, 1, .inl (.iload_n 2)), (103, 3, .inl (.ifCond .eq 8)), (106, 2, .inr (7, 171, 19, 0, 3003, 0)),
  (108, 3, .inl (.goto 5)), (111, 2, .inr (7, 173, 20, 0, 3004, 0)), (113, 3, .inr (4, 111, 173, 202, 2117, 0)), (116, 1, .inl .return_)]
set_option maxRecDepth 100000 in
theorem okX1_writeSheet : ckM (mt mX1_writeSheet) kX1_writeSheet = true := by decide +kernel
def kX1_writeColumn : CD := [
  (0, 1, .inl (.aload_n 0)), (1, 3, .inr (1, 39, 0, 7, 1197, 0)), (4, 1, .inl (.iload_n 1)), (5, 3, .inl (.ifCond .eq 8)), (8, 2, .inr (7, 175, 21, 0, 3009, 0)), (10, 3, .inl (.goto 5)),
  (13, 2, .inr (7, 109, 2, 0, 2116, 0)), (15, 3, .inr (4, 111, 173, 202, 2117, 0)), (18, 1, .inl (.iload_n 2)), (19, 1, .inl (.iconst 1)), (20, 1, .inl .isub), (21, 1, .inl (.istore_n 3)),
  (22, 1, .inl (.iload_n 3)), (23, 3, .inl (.sipush 702)), (26, 3, .inl (.if_icmp .lt 22)), (29, 1, .inl (.aload_n 0)), (30, 3, .inr (1, 39, 0, 7, 1197, 0)), (33, 2, .inl (.bipush 65)),
  (35, 1, .inl (.iload_n 3)), (36, 3, .inl (.sipush 702)), (39, 1, .inl .isub), (40, 3, .inl (.sipush 676)), (43, 1, .inl .idiv), (44, 1, .inl .iadd),
  (45, 3, .inr (4, 61, 171, 202, 2105, 0)), (48, 1, .inl (.iload_n 3)), (49, 2, .inl (.bipush 26)), (51, 3, .inl (.if_icmp .lt 23)), (54, 1, .inl (.aload_n 0)), (55, 3, .inr (1, 39, 0, 7, 1197, 0)),
  (58, 2, .inl (.bipush 65)), (60, 1, .inl (.iload_n 3)), (61, 2, .inl (.bipush 26)), (63, 1, .inl .isub), (64, 2, .inl (.bipush 26)), (66, 1, .inl .idiv),
  (67, 2, .inl (.bipush 26)), (69, 1, .inl .irem), (70, 1, .inl .iadd), (71, 3, .inr (4, 61, 171, 202, 2105, 0)), (74, 1, .inl (.aload_n 0)), (75, 3, .inr (1, 39, 0, 7, 1197, 0)),
  (78, 2, .inl (.bipush 65)), (80, 1, .inl (.iload_n 3)), (81, 2, .inl (.bipush 26)), (83, 1, .inl .irem), (84, 1, .inl .iadd), (85, 3, .inr (4, 61, 171, 202, 2105, 0)),
  (88, 1, .inl .return_)]
set_option maxRecDepth 100000 in
theorem okX1_writeColumn : ckM (mt mX1_writeColumn) kX1_writeColumn = true := by decide +kernel
def kX1_writeRow : CD := [
  (0, 1, .inl (.aload_n 0)), (1, 3, .inr (1, 39, 0, 7, 1197, 0)), (4, 1, .inl (.iload_n 1)), (5, 3, .inl (.ifCond .eq 8)), (8, 2, .inr (7, 175, 21, 0, 3009, 0)), (10, 3, .inl (.goto 5)),
  (13, 2, .inr (7, 109, 2, 0, 2116, 0)), (15, 3, .inr (4, 111, 173, 202, 2117, 0)), (18, 1, .inl (.aload_n 0)), (19, 3, .inr (1, 39, 0, 7, 1197, 0)), (22, 1, .inl (.iload_n 2)), (23, 3, .inr (4, 177, 174, 202, 2206, 0)),
  (26, 1, .inl .return_)]
set_option maxRecDepth 100000 in
theorem okX1_writeRow : ckM (mt mX1_writeRow) kX1_writeRow = true := by decide +kernel
def kX1_writeRange : CD := [
  (0, 1, .inl (.aload_n 0)), (1, 1, .inl (.aload_n 0)), (2, 3, .inr (1, 9, 0, 0, 1190, 0)), (5, 1, .inl (.iload_n 1)), (6, 1, .inl (.iconst 1)), (7, 1, .inl .iadd),
  (8, 3, .inr (4, 64, 169, 202, 2106, 1)), (11, 3, .inr (4, 132, 133, 2, 2233, 0)), (14, 1, .inl (.iload_n 2)), (15, 2, .inl (.bipush 32)), (17, 1, .inl .iand), (18, 3, .inl (.ifCond .ne 20)),
  (21, 1, .inl (.aload_n 0)), (22, 1, .inl (.iload_n 2)), (23, 1, .inl (.iconst 1)), (24, 1, .inl .iand), (25, 1, .inl (.aload_n 0)), (26, 3, .inr (1, 9, 0, 0, 1190, 0)),
  (29, 1, .inl (.iload_n 1)), (30, 1, .inl (.iconst 3)), (31, 1, .inl .iadd), (32, 3, .inr (4, 64, 169, 202, 2106, 1)), (35, 3, .inr (4, 135, 134, 3, 3005, 0)), (38, 1, .inl (.iload_n 2)),
  (39, 2, .inl (.bipush 16)), (41, 1, .inl .iand), (42, 3, .inl (.ifCond .ne 20)), (45, 1, .inl (.aload_n 0)), (46, 1, .inl (.iload_n 2)), (47, 1, .inl (.iconst 2)),
  (48, 1, .inl .iand), (49, 1, .inl (.aload_n 0)), (50, 3, .inr (1, 9, 0, 0, 1190, 0)), (53, 1, .inl (.iload_n 1)), (54, 1, .inl (.iconst 2)), (55, 1, .inl .iadd),
  (56, 3, .inr (4, 64, 169, 202, 2106, 1)), (59, 3, .inr (4, 138, 135, 3, 3010, 0)), (62, 1, .inl (.aload_n 0)), (63, 3, .inr (1, 39, 0, 7, 1197, 0)), (66, 2, .inl (.bipush 58)), (68, 3, .inr (4, 61, 171, 202, 2105, 0)),
  (71, 1, .inl (.iload_n 2)), (72, 2, .inl (.bipush 32)), (74, 1, .inl .iand), (75, 3, .inl (.ifCond .ne 20)), (78, 1, .inl (.aload_n 0)), (79, 1, .inl (.iload_n 2)),
  (80, 1, .inl (.iconst 4)), (81, 1, .inl .iand), (82, 1, .inl (.aload_n 0)), (83, 3, .inr (1, 9, 0, 0, 1190, 0)), (86, 1, .inl (.iload_n 1)), (87, 1, .inl (.iconst 5)),
  (88, 1, .inl .iadd), (89, 3, .inr (4, 64, 169, 202, 2106, 1)), (92, 3, .inr (4, 135, 134, 3, 3005, 0)), (95, 1, .inl (.iload_n 2)), (96, 2, .inl (.bipush 16)), (98, 1, .inl .iand),
  (99, 3, .inl (.ifCond .ne 21)), (102, 1, .inl (.aload_n 0)), (103, 1, .inl (.iload_n 2)), (104, 2, .inl (.bipush 8)), (106, 1, .inl .iand), (107, 1, .inl (.aload_n 0)),
  (108, 3, .inr (1, 9, 0, 0, 1190, 0)), (111, 1, .inl (.iload_n 1)), (112, 1, .inl (.iconst 4)), (113, 1, .inl .iadd), (114, 3, .inr (4, 64, 169, 202, 2106, 1)), (117, 3, .inr (4, 138, 135, 3, 3010, 0)),
  (120, 1, .inl .return_)]
set_option maxRecDepth 100000 in
theorem okX1_writeRange : ckM (mt mX1_writeRange) kX1_writeRange = true := by decide +kernel
def kX1_writeNumber : CD := [
  (0, 1, .inl (.aload_n 0)), (1, 1, .inl (.aload_n 0)), (2, 3, .inr (1, 9, 0, 0, 1190, 0)), (5, 1, .inl (.iload_n 1)), (6, 1, .inl (.iconst 1)), (7, 1, .inl .iadd),
  (8, 3, .inr (4, 64, 169, 202, 2106, 1)), (11, 1, .inl .i2l), (12, 2, .inl (.bipush 30)), (14, 1, .inl .lshl), (15, 1, .inl (.aload_n 0)), (16, 3, .inr (1, 9, 0, 0, 1190, 0)),
  (19, 1, .inl (.iload_n 1)), (20, 1, .inl (.iconst 2)), (21, 1, .inl .iadd), (22, 3, .inr (4, 64, 169, 202, 2106, 1)), (25, 1, .inl .i2l), (26, 1, .inl .ladd),
  (27, 3, .inr (4, 180, 138, 2, 2185, 0)), (30, 1, .inl (.aload_n 0)), (31, 3, .inr (1, 9, 0, 0, 1190, 0)), (34, 1, .inl (.iload_n 1)), (35, 1, .inl (.iconst 3)), (36, 1, .inl .iadd),
  (37, 3, .inr (4, 64, 169, 202, 2106, 1)), (40, 1, .inl (.aload_n 0)), (41, 3, .inr (1, 42, 0, 8, 1198, 0)), (44, 3, .inr (4, 60, 168, 201, 2104, 1)), (47, 1, .inl .iadd), (48, 1, .inl (.iconst 1)),
  (49, 1, .inl .isub), (50, 1, .inl (.istore_n 3)), (51, 1, .inl (.aload_n 0)), (52, 3, .inr (1, 39, 0, 7, 1197, 0)), (55, 1, .inl (.iload_n 2)), (56, 1, .inl (.iconst 1)),
  (57, 3, .inl (.if_icmp .ne 8)), (60, 2, .inr (7, 184, 3, 0, 2190, 0)), (62, 3, .inl (.goto 5)), (65, 2, .inr (7, 109, 2, 0, 2116, 0)), (67, 3, .inr (4, 111, 173, 202, 2117, 0)), (70, 1, .inl (.iload_n 3)),
  (71, 2, .inl (.bipush (-5))), (73, 3, .inl (.if_icmp .lt 9)), (76, 1, .inl (.iload_n 3)), (77, 2, .inl (.bipush 20)), (79, 3, .inl (.if_icmp .le 11)), (82, 1, .inl (.aload_n 0)),
  (83, 1, .inl (.iload_n 3)), (84, 3, .inr (4, 186, 141, 2, 2191, 0)), (87, 3, .inl (.goto 53)), (90, 1, .inl (.iload_n 3)), (91, 3, .inl (.ifCond .ge 44)), (94, 1, .inl (.aload_n 0)),
  (95, 3, .inr (1, 39, 0, 7, 1197, 0)), (98, 2, .inr (7, 189, 7, 0, 2211, 0)), (100, 3, .inr (4, 111, 173, 202, 2117, 0)), (103, 1, .inl (.iconst (-1))), (104, 2, .inl (.istore 4)), (106, 2, .inl (.iload 4)),
  (108, 1, .inl (.iload_n 3)), (109, 3, .inl (.if_icmp .le 18)), (112, 1, .inl (.aload_n 0)), (113, 3, .inr (1, 39, 0, 7, 1197, 0)), (116, 2, .inl (.bipush 48)), (118, 3, .inr (4, 61, 171, 202, 2105, 0)),
  (121, 3, .inl (.iinc 4 (-1))), (124, 3, .inl (.goto (-18))), (127, 1, .inl (.aload_n 0)), (128, 1, .inl (.iconst 0)), (129, 3, .inr (4, 191, 139, 2, 2199, 0)), (132, 3, .inl (.goto 8)),
  (135, 1, .inl (.aload_n 0)), (136, 1, .inl (.iload_n 3)), (137, 3, .inr (4, 194, 140, 2, 2212, 0)), (140, 1, .inl .return_)]
set_option maxRecDepth 100000 in
theorem okX1_writeNumber : ckM (mt mX1_writeNumber) kX1_writeNumber = true := by decide +kernel
def kX1_takeDigits : CD := [
  (0, 1, .inl (.aload_n 0)), (1, 3, .inr (1, 42, 0, 8, 1198, 0)), (4, 3, .inr (4, 57, 177, 201, 2103, 0)), (7, 1, .inl (.lload_n 1)), (8, 1, .inl (.lstore_n 3)), (9, 1, .inl (.iconst 0)),
  (10, 2, .inl (.istore 5)), (12, 2, .inl (.iload 5)), (14, 2, .inl (.bipush 15)), (16, 3, .inl (.if_icmp .ge 42)), (19, 2, .inl (.iload 5)), (21, 3, .inl (.ifCond .eq 9)),
  (24, 1, .inl (.lload_n 3)), (25, 1, .inl (.lconst 0)), (26, 1, .inl .lcmp), (27, 3, .inl (.ifCond .le 31)), (30, 1, .inl (.aload_n 0)), (31, 3, .inr (1, 42, 0, 8, 1198, 0)),
  (34, 2, .inl (.bipush 48)), (36, 1, .inl (.lload_n 3)), (37, 3, .inr (5, 197, 0, 0, 2189, 10)), (40, 1, .inl .lrem), (41, 1, .inl .l2i), (42, 1, .inl .iadd),
  (43, 3, .inr (4, 61, 171, 202, 2105, 0)), (46, 1, .inl (.lload_n 3)), (47, 3, .inr (5, 197, 0, 0, 2189, 10)), (50, 1, .inl .ldiv), (51, 1, .inl (.lstore_n 3)), (52, 3, .inl (.iinc 5 1)),
  (55, 3, .inl (.goto (-43))), (58, 1, .inl .return_)]
set_option maxRecDepth 100000 in
theorem okX1_takeDigits : ckM (mt mX1_takeDigits) kX1_takeDigits = true := by decide +kernel
def kX1_writeDigits : CD := [
  (0, 1, .inl (.aload_n 0)), (1, 3, .inr (1, 42, 0, 8, 1198, 0)), (4, 3, .inr (4, 60, 168, 201, 2104, 1)), (7, 1, .inl (.iconst 1)), (8, 1, .inl .isub), (9, 1, .inl (.iload_n 1)),
  (10, 1, .inl .isub), (11, 1, .inl (.istore_n 2)), (12, 1, .inl (.iload_n 2)), (13, 3, .inl (.ifCond .lt 24)), (16, 1, .inl (.aload_n 0)), (17, 3, .inr (1, 39, 0, 7, 1197, 0)),
  (20, 1, .inl (.aload_n 0)), (21, 3, .inr (1, 42, 0, 8, 1198, 0)), (24, 1, .inl (.iload_n 2)), (25, 3, .inr (4, 64, 169, 202, 2106, 1)), (28, 3, .inr (4, 61, 171, 202, 2105, 0)), (31, 3, .inl (.iinc 2 (-1))),
  (34, 3, .inl (.goto (-22))), (37, 1, .inl .return_)]
set_option maxRecDepth 100000 in
theorem okX1_writeDigits : ckM (mt mX1_writeDigits) kX1_writeDigits = true := by decide +kernel
def kX1_writeWithPoint : CD := [
  (0, 1, .inl (.iconst 0)), (1, 1, .inl (.istore_n 2)), (2, 1, .inl (.iload_n 2)), (3, 1, .inl (.aload_n 0)), (4, 3, .inr (1, 42, 0, 8, 1198, 0)), (7, 3, .inr (4, 60, 168, 201, 2104, 1)),
  (10, 3, .inl (.if_icmp .lt 8)), (13, 1, .inl (.iload_n 2)), (14, 1, .inl (.iload_n 1)), (15, 3, .inl (.if_icmp .gt 66)), (18, 1, .inl (.iload_n 2)), (19, 1, .inl (.iload_n 1)),
  (20, 1, .inl (.iconst 1)), (21, 1, .inl .iadd), (22, 3, .inl (.if_icmp .ne 12)), (25, 1, .inl (.aload_n 0)), (26, 3, .inr (1, 39, 0, 7, 1197, 0)), (29, 2, .inl (.bipush 46)),
  (31, 3, .inr (4, 61, 171, 202, 2105, 0)), (34, 1, .inl (.aload_n 0)), (35, 3, .inr (1, 39, 0, 7, 1197, 0)), (38, 1, .inl (.iload_n 2)), (39, 1, .inl (.aload_n 0)), (40, 3, .inr (1, 42, 0, 8, 1198, 0)),
  (43, 3, .inr (4, 60, 168, 201, 2104, 1)), (46, 3, .inl (.if_icmp .ge 24)), (49, 1, .inl (.aload_n 0)), (50, 3, .inr (1, 42, 0, 8, 1198, 0)), (53, 1, .inl (.aload_n 0)), (54, 3, .inr (1, 42, 0, 8, 1198, 0)),
  (57, 3, .inr (4, 60, 168, 201, 2104, 1)), (60, 1, .inl (.iconst 1)), (61, 1, .inl .isub), (62, 1, .inl (.iload_n 2)), (63, 1, .inl .isub), (64, 3, .inr (4, 64, 169, 202, 2106, 1)),
  (67, 3, .inl (.goto 5)), (70, 2, .inl (.bipush 48)), (72, 3, .inr (4, 61, 171, 202, 2105, 0)), (75, 3, .inl (.iinc 2 1)), (78, 3, .inl (.goto (-76))), (81, 1, .inl .return_)]
set_option maxRecDepth 100000 in
theorem okX1_writeWithPoint : ckM (mt mX1_writeWithPoint) kX1_writeWithPoint = true := by decide +kernel
def kX1_writeWithExponent : CD := [
  (0, 1, .inl (.aload_n 0)), (1, 3, .inr (1, 39, 0, 7, 1197, 0)), (4, 1, .inl (.aload_n 0)), (5, 3, .inr (1, 42, 0, 8, 1198, 0)), (8, 3, .inr (4, 86, 170, 201, 2195, 1)), (11, 3, .inr (4, 61, 171, 202, 2105, 0)),
  (14, 1, .inl (.aload_n 0)), (15, 3, .inr (1, 42, 0, 8, 1198, 0)), (18, 3, .inr (4, 60, 168, 201, 2104, 1)), (21, 1, .inl (.iconst 1)), (22, 3, .inl (.if_icmp .le 17)), (25, 1, .inl (.aload_n 0)),
  (26, 3, .inr (1, 39, 0, 7, 1197, 0)), (29, 2, .inl (.bipush 46)), (31, 3, .inr (4, 61, 171, 202, 2105, 0)), (34, 1, .inl (.aload_n 0)), (35, 1, .inl (.iconst 1)), (36, 3, .inr (4, 191, 139, 2, 2199, 0)),
  (39, 1, .inl (.iload_n 1)), (40, 3, .inl (.ifCond .ge 8)), (43, 1, .inl (.iload_n 1)), (44, 1, .inl .ineg), (45, 3, .inl (.goto 4)), (48, 1, .inl (.iload_n 1)),
  (49, 1, .inl (.istore_n 2)), (50, 1, .inl (.aload_n 0)), (51, 3, .inr (1, 39, 0, 7, 1197, 0)), (54, 1, .inl (.iload_n 1)), (55, 3, .inl (.ifCond .ge 8)), (58, 2, .inr (7, 199, 4, 0, 2203, 0)),
  (60, 3, .inl (.goto 5)), (63, 2, .inr (7, 201, 5, 0, 2204, 0)), (65, 3, .inr (4, 111, 173, 202, 2117, 0)), (68, 1, .inl (.aload_n 0)), (69, 3, .inr (1, 39, 0, 7, 1197, 0)), (72, 1, .inl (.iload_n 2)),
  (73, 2, .inl (.bipush 10)), (75, 3, .inl (.if_icmp .ge 8)), (78, 2, .inr (7, 203, 6, 0, 2205, 0)), (80, 3, .inl (.goto 5)), (83, 2, .inr (7, 109, 2, 0, 2116, 0)), (85, 3, .inr (4, 111, 173, 202, 2117, 0)),
  (88, 1, .inl (.aload_n 0)), (89, 3, .inr (1, 39, 0, 7, 1197, 0)), (92, 1, .inl (.iload_n 2)), (93, 3, .inr (4, 177, 174, 202, 2206, 0)), (96, 1, .inl .return_)]
set_option maxRecDepth 100000 in
theorem okX1_writeWithExponent : ckM (mt mX1_writeWithExponent) kX1_writeWithExponent = true := by decide +kernel
def kX2_readText : CD := [
  (0, 1, .inl (.aload_n 0)), (1, 3, .inr (1, 15, 1, 1, 1137, 0)), (4, 3, .inr (4, 43, 177, 201, 3237, 0)), (7, 1, .inl (.aload_n 0)), (8, 3, .inr (1, 34, 1, 5, 1141, 0)), (11, 3, .inr (4, 43, 177, 201, 3237, 0)),
  (14, 1, .inl (.aload_n 0)), (15, 3, .inr (1, 37, 1, 6, 1142, 0)), (18, 3, .inr (4, 43, 177, 201, 3237, 0)), (21, 1, .inl (.aload_n 0)), (22, 3, .inr (1, 40, 1, 7, 1143, 0)), (25, 3, .inr (4, 43, 177, 201, 3237, 0)),
  (28, 1, .inl (.aload_n 0)), (29, 1, .inl (.iconst (-1))), (30, 3, .inr (2, 46, 1, 9, 1145, 0)), (33, 1, .inl (.aload_n 0)), (34, 3, .inr (1, 9, 1, 0, 1136, 0)), (37, 1, .inl (.iconst 0)),
  (38, 3, .inr (4, 50, 169, 202, 3238, 1)), (41, 2, .inl (.bipush 61)), (43, 3, .inl (.if_icmp .eq 5)), (46, 1, .inl (.iconst 0)), (47, 1, .inl .ireturn), (48, 1, .inl (.aload_n 0)),
  (49, 1, .inl (.iconst 1)), (50, 3, .inr (2, 54, 1, 8, 1144, 0)), (53, 1, .inl (.aload_n 0)), (54, 1, .inl (.iconst 0)), (55, 3, .inr (2, 57, 1, 10, 1146, 0)), (58, 1, .inl (.iconst 0)),
  (59, 1, .inl (.istore_n 1)), (60, 1, .inl (.iload_n 1)), (61, 1, .inl (.aload_n 0)), (62, 3, .inr (1, 9, 1, 0, 1136, 0)), (65, 3, .inr (4, 60, 168, 201, 3239, 1)), (68, 3, .inl (.if_icmp .gt 83)),
  (71, 1, .inl (.aload_n 0)), (72, 3, .inr (0, 46, 1, 9, 1145, 0)), (75, 1, .inl (.iconst (-1))), (76, 3, .inl (.if_icmp .ne 75)), (79, 1, .inl (.aload_n 0)), (80, 3, .inr (0, 57, 1, 10, 1146, 0)),
  (83, 1, .inl (.iconst 4)), (84, 3, .inl (.if_icmp .eq 67)), (87, 1, .inl (.aload_n 0)), (88, 3, .inr (4, 64, 143, 101, 4000, 0)), (91, 1, .inl (.aload_n 0)), (92, 3, .inr (0, 57, 1, 10, 1146, 0)),
  (95, 25, .inl (.tableswitch 46 0 2 #[25, 32, 39])), (120, 1, .inl (.aload_n 0)), (121, 3, .inr (4, 67, 144, 101, 4004, 0)), (124, 3, .inl (.goto 21)), (127, 1, .inl (.aload_n 0)), (128, 3, .inr (4, 70, 157, 101, 4150, 0)),
  (131, 3, .inl (.goto 14)), (134, 1, .inl (.aload_n 0)), (135, 3, .inr (4, 73, 165, 101, 4178, 0)), (138, 3, .inl (.goto 7)), (141, 1, .inl (.aload_n 0)), (142, 3, .inr (4, 76, 167, 101, 4187, 0)),
  (145, 3, .inl (.iinc 1 1)), (148, 3, .inl (.goto (-88))), (151, 1, .inl (.aload_n 0)), (152, 3, .inr (0, 46, 1, 9, 1145, 0)), (155, 1, .inl .ireturn)]
set_option maxRecDepth 100000 in
theorem okX2_readText : ckM (mt mX2_readText) kX2_readText = true := by decide +kernel
def kX2_skipBlanks : CD := [
  (0, 1, .inl (.aload_n 0)), (1, 3, .inr (0, 54, 1, 8, 1144, 0)), (4, 1, .inl (.aload_n 0)), (5, 3, .inr (1, 9, 1, 0, 1136, 0)), (8, 3, .inr (4, 60, 168, 201, 3239, 1)), (11, 3, .inl (.if_icmp .ge 32)),
  (14, 1, .inl (.aload_n 0)), (15, 3, .inr (1, 9, 1, 0, 1136, 0)), (18, 1, .inl (.aload_n 0)), (19, 3, .inr (0, 54, 1, 8, 1144, 0)), (22, 3, .inr (4, 50, 169, 202, 3238, 1)), (25, 2, .inl (.bipush 32)),
  (27, 3, .inl (.if_icmp .ne 16)), (30, 1, .inl (.aload_n 0)), (31, 1, .inl .dup), (32, 3, .inr (0, 54, 1, 8, 1144, 0)), (35, 1, .inl (.iconst 1)), (36, 1, .inl .iadd),
  (37, 3, .inr (2, 54, 1, 8, 1144, 0)), (40, 3, .inl (.goto (-40))), (43, 1, .inl .return_)]
set_option maxRecDepth 100000 in
theorem okX2_skipBlanks : ckM (mt mX2_skipBlanks) kX2_skipBlanks = true := by decide +kernel
def kX2_readOperand : CD := [
  (0, 1, .inl (.aload_n 0)), (1, 3, .inr (1, 9, 1, 0, 1136, 0)), (4, 1, .inl (.aload_n 0)), (5, 3, .inr (0, 54, 1, 8, 1144, 0)), (8, 3, .inr (4, 50, 169, 202, 3238, 1)), (11, 1, .inl (.istore_n 1)),
  (12, 1, .inl (.iload_n 1)), (13, 2, .inl (.bipush 43)), (15, 3, .inl (.if_icmp .eq 9)), (18, 1, .inl (.iload_n 1)), (19, 2, .inl (.bipush 45)), (21, 3, .inl (.if_icmp .ne 36)),
  (24, 1, .inl (.aload_n 0)), (25, 3, .inr (1, 34, 1, 5, 1141, 0)), (28, 1, .inl (.iload_n 1)), (29, 2, .inl (.bipush 45)), (31, 3, .inl (.if_icmp .ne 8)), (34, 2, .inl (.bipush 13)),
  (36, 3, .inl (.goto 5)), (39, 2, .inl (.bipush 14)), (41, 3, .inr (4, 79, 171, 202, 4008, 0)), (44, 1, .inl (.aload_n 0)), (45, 1, .inl .dup), (46, 3, .inr (0, 54, 1, 8, 1144, 0)),
  (49, 1, .inl (.iconst 1)), (50, 1, .inl .iadd), (51, 3, .inr (2, 54, 1, 8, 1144, 0)), (54, 3, .inl (.goto 183)), (57, 1, .inl (.iload_n 1)), (58, 2, .inl (.bipush 40)),
  (60, 3, .inl (.if_icmp .ne 17)), (63, 1, .inl (.aload_n 0)), (64, 1, .inl (.iconst (-1))), (65, 1, .inl (.aload_n 0)), (66, 3, .inr (0, 54, 1, 8, 1144, 0)), (69, 1, .inl (.iconst 1)),
  (70, 1, .inl .iadd), (71, 3, .inr (4, 82, 151, 103, 4009, 0)), (74, 3, .inl (.goto 163)), (77, 1, .inl (.iload_n 1)), (78, 2, .inl (.bipush 44)), (80, 3, .inl (.if_icmp .eq 9)),
  (83, 1, .inl (.iload_n 1)), (84, 2, .inl (.bipush 41)), (86, 3, .inl (.if_icmp .ne 11)), (89, 1, .inl (.aload_n 0)), (90, 1, .inl (.iload_n 1)), (91, 3, .inr (4, 86, 153, 102, 4013, 0)),
  (94, 3, .inl (.goto 143)), (97, 1, .inl (.iload_n 1)), (98, 2, .inl (.bipush 123)), (100, 3, .inl (.if_icmp .ne 10)), (103, 1, .inl (.aload_n 0)), (104, 3, .inr (4, 89, 164, 101, 4048, 0)),
  (107, 3, .inl (.goto 130)), (110, 1, .inl (.iload_n 1)), (111, 2, .inl (.bipush 34)), (113, 3, .inl (.if_icmp .ne 21)), (116, 1, .inl (.aload_n 0)), (117, 1, .inl (.aload_n 0)),
  (118, 3, .inr (1, 18, 1, 2, 1138, 0)), (121, 1, .inl (.aload_n 0)), (122, 3, .inr (0, 54, 1, 8, 1144, 0)), (125, 3, .inr (4, 92, 188, 302, 4052, 1)), (128, 3, .inr (4, 98, 145, 102, 4064, 0)), (131, 3, .inl (.goto 106)),
  (134, 1, .inl (.iload_n 1)), (135, 2, .inl (.bipush 35)), (137, 3, .inl (.if_icmp .ne 21)), (140, 1, .inl (.aload_n 0)), (141, 1, .inl (.aload_n 0)), (142, 3, .inr (1, 18, 1, 2, 1138, 0)),
  (145, 1, .inl (.aload_n 0)), (146, 3, .inr (0, 54, 1, 8, 1144, 0)), (149, 3, .inr (4, 102, 189, 302, 4072, 1)), (152, 3, .inr (4, 98, 145, 102, 4064, 0)), (155, 3, .inl (.goto 82)), (158, 1, .inl (.iload_n 1)),
  (159, 2, .inl (.bipush 39)), (161, 3, .inl (.if_icmp .ne 10)), (164, 1, .inl (.aload_n 0)), (165, 3, .inr (4, 105, 147, 101, 4079, 0)), (168, 3, .inl (.goto 69)), (171, 1, .inl (.iload_n 1)),
  (172, 3, .inr (4, 108, 14, 9901, 4106, 1)), (175, 3, .inl (.ifCond .ne 9)), (178, 1, .inl (.iload_n 1)), (179, 2, .inl (.bipush 95)), (181, 3, .inl (.if_icmp .ne 10)), (184, 1, .inl (.aload_n 0)),
  (185, 3, .inr (4, 111, 149, 101, 4107, 0)), (188, 3, .inl (.goto 49)), (191, 1, .inl (.aload_n 0)), (192, 3, .inr (1, 18, 1, 2, 1138, 0)), (195, 1, .inl (.aload_n 0)), (196, 3, .inr (0, 54, 1, 8, 1144, 0)),
  (199, 3, .inr (4, 114, 191, 302, 4093, 1)), (202, 3, .inl (.ifCond .eq 19)), (205, 1, .inl (.aload_n 0)), (206, 3, .inr (1, 18, 1, 2, 1138, 0)), (209, 1, .inl (.iconst (-1))), (210, 3, .inr (4, 117, 192, 302, 4097, 0)),
  (213, 1, .inl (.aload_n 0)), (214, 1, .inl (.iconst 1)), (215, 3, .inr (4, 98, 145, 102, 4064, 0)), (218, 3, .inl (.goto 19)), (221, 1, .inl (.aload_n 0)), (222, 1, .inl (.aload_n 0)),
  (223, 3, .inr (1, 18, 1, 2, 1138, 0)), (226, 1, .inl (.aload_n 0)), (227, 3, .inr (0, 54, 1, 8, 1144, 0)), (230, 1, .inl (.iconst 0)), (231, 3, .inr (4, 120, 183, 303, 4126, 1)), (234, 3, .inr (4, 98, 145, 102, 4064, 0)),
  (237, 1, .inl .return_)]
set_option maxRecDepth 100000 in
theorem okX2_readOperand : ckM (mt mX2_readOperand) kX2_readOperand = true := by decide +kernel
def kX2_endItem : CD := [
  (0, 1, .inl (.iload_n 1)), (1, 3, .inl (.ifCond .eq 21)), (4, 1, .inl (.aload_n 0)), (5, 1, .inl (.aload_n 0)), (6, 3, .inr (1, 18, 1, 2, 1138, 0)), (9, 3, .inr (4, 124, 179, 301, 4068, 1)),
  (12, 3, .inr (2, 54, 1, 8, 1144, 0)), (15, 1, .inl (.aload_n 0)), (16, 3, .inr (4, 127, 146, 101, 4044, 0)), (19, 3, .inl (.goto 11)), (22, 1, .inl (.aload_n 0)), (23, 1, .inl (.aload_n 0)),
  (24, 3, .inr (0, 54, 1, 8, 1144, 0)), (27, 3, .inr (2, 46, 1, 9, 1145, 0)), (30, 1, .inl .return_)]
set_option maxRecDepth 100000 in
theorem okX2_endItem : ckM (mt mX2_endItem) kX2_endItem = true := by decide +kernel
def kX2_endAtom : CD := [
  (0, 1, .inl (.aload_n 0)), (1, 3, .inr (1, 34, 1, 5, 1141, 0)), (4, 3, .inr (4, 60, 168, 201, 3239, 1)), (7, 1, .inl (.istore_n 1)), (8, 1, .inl (.iload_n 1)), (9, 3, .inl (.ifCond .le 59)),
  (12, 1, .inl (.aload_n 0)), (13, 3, .inr (1, 34, 1, 5, 1141, 0)), (16, 3, .inr (4, 130, 170, 201, 4021, 1)), (19, 2, .inl (.bipush 13)), (21, 3, .inl (.if_icmp .eq 15)), (24, 1, .inl (.aload_n 0)),
  (25, 3, .inr (1, 34, 1, 5, 1141, 0)), (28, 3, .inr (4, 130, 170, 201, 4021, 1)), (31, 2, .inl (.bipush 14)), (33, 3, .inl (.if_icmp .ne 35)), (36, 1, .inl (.aload_n 0)), (37, 3, .inr (1, 15, 1, 1, 1137, 0)),
  (40, 2, .inl (.bipush 9)), (42, 1, .inl (.aload_n 0)), (43, 3, .inr (1, 34, 1, 5, 1141, 0)), (46, 3, .inr (4, 130, 170, 201, 4021, 1)), (49, 3, .inr (4, 133, 23, 9902, 4022, 1)), (52, 3, .inr (4, 79, 171, 202, 4008, 0)),
  (55, 1, .inl (.aload_n 0)), (56, 3, .inr (1, 34, 1, 5, 1141, 0)), (59, 3, .inr (4, 137, 176, 201, 4043, 0)), (62, 3, .inl (.iinc 1 (-1))), (65, 3, .inl (.goto (-57))), (68, 1, .inl (.aload_n 0)),
  (69, 1, .inl (.iconst 1)), (70, 3, .inr (2, 57, 1, 10, 1146, 0)), (73, 1, .inl .return_)]
set_option maxRecDepth 100000 in
theorem okX2_endAtom : ckM (mt mX2_endAtom) kX2_endAtom = true := by decide +kernel
def kX2_readQuotedSheet : CD := [
  (0, 1, .inl (.aload_n 0)), (1, 3, .inr (1, 18, 1, 2, 1138, 0)), (4, 1, .inl (.aload_n 0)), (5, 3, .inr (0, 54, 1, 8, 1144, 0)), (8, 3, .inr (4, 140, 187, 302, 4083, 1)), (11, 3, .inl (.ifCond .eq 22)),
  (14, 1, .inl (.aload_n 0)), (15, 3, .inr (1, 9, 1, 0, 1136, 0)), (18, 1, .inl (.aload_n 0)), (19, 3, .inr (1, 18, 1, 2, 1138, 0)), (22, 3, .inr (4, 124, 179, 301, 4068, 1)), (25, 3, .inr (4, 50, 169, 202, 3238, 1)),
  (28, 2, .inl (.bipush 33)), (30, 3, .inl (.if_icmp .eq 12)), (33, 1, .inl (.aload_n 0)), (34, 1, .inl (.aload_n 0)), (35, 3, .inr (0, 54, 1, 8, 1144, 0)), (38, 3, .inr (2, 46, 1, 9, 1145, 0)),
  (41, 1, .inl .return_), (42, 1, .inl (.aload_n 0)), (43, 3, .inr (1, 18, 1, 2, 1138, 0)), (46, 3, .inr (4, 143, 180, 301, 4084, 3)), (49, 1, .inl (.astore_n 1)), (50, 1, .inl (.aload_n 0)),
  (51, 1, .inl (.aload_n 0)), (52, 3, .inr (1, 22, 1, 3, 1139, 0)), (55, 1, .inl (.aload_n 1)), (56, 1, .inl (.iconst 0)), (57, 1, .inl (.aload_n 1)), (58, 3, .inr (4, 60, 168, 201, 3239, 1)),
  (61, 3, .inr (4, 147, 199, 504, 4088, 1)), (64, 1, .inl (.aload_n 0)), (65, 3, .inr (1, 18, 1, 2, 1138, 0)), (68, 3, .inr (4, 124, 179, 301, 4068, 1)), (71, 1, .inl (.iconst 1)), (72, 1, .inl .iadd),
  (73, 3, .inr (4, 153, 148, 103, 4089, 0)), (76, 1, .inl .return_)]
set_option maxRecDepth 100000 in
theorem okX2_readQuotedSheet : ckM (mt mX2_readQuotedSheet) kX2_readQuotedSheet = true := by decide +kernel
def kX2_readSheetReference : CD := [
  (0, 1, .inl (.iload_n 1)), (1, 1, .inl (.iconst (-1))), (2, 3, .inl (.if_icmp .ne 14)), (5, 1, .inl (.aload_n 0)), (6, 1, .inl (.aload_n 0)), (7, 3, .inr (0, 54, 1, 8, 1144, 0)),
  (10, 3, .inr (2, 46, 1, 9, 1145, 0)), (13, 3, .inl (.goto 35)), (16, 1, .inl (.aload_n 0)), (17, 3, .inr (1, 18, 1, 2, 1138, 0)), (20, 1, .inl (.iload_n 2)), (21, 3, .inr (4, 114, 191, 302, 4093, 1)),
  (24, 3, .inl (.ifCond .eq 19)), (27, 1, .inl (.aload_n 0)), (28, 3, .inr (1, 18, 1, 2, 1138, 0)), (31, 1, .inl (.iload_n 1)), (32, 3, .inr (4, 117, 192, 302, 4097, 0)), (35, 1, .inl (.aload_n 0)),
  (36, 1, .inl (.iconst 1)), (37, 3, .inr (4, 98, 145, 102, 4064, 0)), (40, 3, .inl (.goto 8)), (43, 1, .inl (.aload_n 0)), (44, 1, .inl (.iload_n 2)), (45, 3, .inr (2, 46, 1, 9, 1145, 0)),
  (48, 1, .inl .return_)]
set_option maxRecDepth 100000 in
theorem okX2_readSheetReference : ckM (mt mX2_readSheetReference) kX2_readSheetReference = true := by decide +kernel
def kX2_readWord : CD := [
  (0, 1, .inl (.aload_n 0)), (1, 3, .inr (1, 9, 1, 0, 1136, 0)), (4, 1, .inl (.aload_n 0)), (5, 3, .inr (0, 54, 1, 8, 1144, 0)), (8, 3, .inr (4, 156, 17, 9902, 4111, 1)), (11, 1, .inl (.istore_n 1)),
  (12, 1, .inl (.aload_n 0)), (13, 3, .inr (1, 9, 1, 0, 1136, 0)), (16, 1, .inl (.iload_n 1)), (17, 3, .inr (4, 50, 169, 202, 3238, 1)), (20, 1, .inl (.istore_n 2)), (21, 1, .inl (.aload_n 0)),
  (22, 3, .inr (1, 18, 1, 2, 1138, 0)), (25, 1, .inl (.aload_n 0)), (26, 3, .inr (0, 54, 1, 8, 1144, 0)), (29, 3, .inr (4, 114, 191, 302, 4093, 1)), (32, 3, .inl (.ifCond .eq 19)), (35, 1, .inl (.aload_n 0)),
  (36, 3, .inr (1, 18, 1, 2, 1138, 0)), (39, 1, .inl (.iconst (-1))), (40, 3, .inr (4, 117, 192, 302, 4097, 0)), (43, 1, .inl (.aload_n 0)), (44, 1, .inl (.iconst 1)), (45, 3, .inr (4, 98, 145, 102, 4064, 0)),
  (48, 3, .inl (.goto 153)), (51, 1, .inl (.iload_n 1)), (52, 1, .inl (.aload_n 0)), (53, 3, .inr (0, 54, 1, 8, 1144, 0)), (56, 1, .inl .isub), (57, 2, .inl (.bipush 40)),
  (59, 3, .inl (.if_icmp .le 14)), (62, 1, .inl (.aload_n 0)), (63, 1, .inl (.aload_n 0)), (64, 3, .inr (0, 54, 1, 8, 1144, 0)), (67, 3, .inr (2, 46, 1, 9, 1145, 0)), (70, 3, .inl (.goto 131)),
  (73, 1, .inl (.iload_n 2)), (74, 2, .inl (.bipush 33)), (76, 3, .inl (.if_icmp .ne 29)), (79, 1, .inl (.aload_n 0)), (80, 1, .inl (.aload_n 0)), (81, 3, .inr (1, 22, 1, 3, 1139, 0)),
  (84, 1, .inl (.aload_n 0)), (85, 3, .inr (1, 9, 1, 0, 1136, 0)), (88, 1, .inl (.aload_n 0)), (89, 3, .inr (0, 54, 1, 8, 1144, 0)), (92, 1, .inl (.iload_n 1)), (93, 3, .inr (4, 147, 199, 504, 4088, 1)),
  (96, 1, .inl (.iload_n 1)), (97, 1, .inl (.iconst 1)), (98, 1, .inl .iadd), (99, 3, .inr (4, 153, 148, 103, 4089, 0)), (102, 3, .inl (.goto 99)), (105, 1, .inl (.iload_n 2)),
  (106, 2, .inl (.bipush 40)), (108, 3, .inl (.if_icmp .ne 44)), (111, 1, .inl (.aload_n 0)), (112, 3, .inr (1, 9, 1, 0, 1136, 0)), (115, 1, .inl (.aload_n 0)), (116, 3, .inr (0, 54, 1, 8, 1144, 0)),
  (119, 1, .inl (.iload_n 1)), (120, 3, .inr (4, 160, 20, 9903, 4112, 1)), (123, 1, .inl (.istore_n 3)), (124, 1, .inl (.aload_n 0)), (125, 1, .inl (.iload_n 3)), (126, 1, .inl (.iconst (-1))),
  (127, 3, .inl (.if_icmp .eq 7)), (130, 1, .inl (.iload_n 3)), (131, 3, .inl (.goto 12)), (134, 3, .inl (.sipush 1000)), (137, 1, .inl (.aload_n 0)), (138, 1, .inl (.iload_n 1)),
  (139, 3, .inr (4, 163, 150, 102, 4117, 1)), (142, 1, .inl .iadd), (143, 1, .inl (.iload_n 1)), (144, 1, .inl (.iconst 1)), (145, 1, .inl .iadd), (146, 3, .inr (4, 82, 151, 103, 4009, 0)),
  (149, 3, .inl (.goto 52)), (152, 1, .inl (.aload_n 0)), (153, 3, .inr (1, 18, 1, 2, 1138, 0)), (156, 1, .inl (.aload_n 0)), (157, 3, .inr (0, 54, 1, 8, 1144, 0)), (160, 1, .inl (.iload_n 1)),
  (161, 3, .inr (4, 166, 190, 303, 4122, 1)), (164, 3, .inl (.ifCond .eq 11)), (167, 1, .inl (.aload_n 0)), (168, 1, .inl (.iconst 1)), (169, 3, .inr (4, 98, 145, 102, 4064, 0)), (172, 3, .inl (.goto 29)),
  (175, 1, .inl (.aload_n 0)), (176, 3, .inr (1, 15, 1, 1, 1137, 0)), (179, 2, .inl (.bipush 6)), (181, 1, .inl (.aload_n 0)), (182, 1, .inl (.iload_n 1)), (183, 3, .inr (4, 163, 150, 102, 4117, 1)),
  (186, 3, .inr (4, 133, 23, 9902, 4022, 1)), (189, 3, .inr (4, 79, 171, 202, 4008, 0)), (192, 1, .inl (.aload_n 0)), (193, 1, .inl (.iload_n 1)), (194, 3, .inr (2, 54, 1, 8, 1144, 0)), (197, 1, .inl (.aload_n 0)),
  (198, 3, .inr (4, 127, 146, 101, 4044, 0)), (201, 1, .inl .return_)]
set_option maxRecDepth 100000 in
theorem okX2_readWord : ckM (mt mX2_readWord) kX2_readWord = true := by decide +kernel
def kX2_nameNumber : CD := [
  (0, 1, .inl (.aload_n 0)), (1, 3, .inr (1, 26, 1, 4, 1140, 0)), (4, 1, .inl (.aload_n 0)), (5, 3, .inr (1, 9, 1, 0, 1136, 0)), (8, 1, .inl (.aload_n 0)), (9, 3, .inr (0, 54, 1, 8, 1144, 0)),
  (12, 1, .inl (.iload_n 1)), (13, 3, .inr (4, 147, 199, 504, 4088, 1)), (16, 1, .inl (.istore_n 2)), (17, 1, .inl (.iload_n 2)), (18, 1, .inl (.iconst (-1))), (19, 3, .inl (.if_icmp .eq 7)),
  (22, 1, .inl (.iload_n 2)), (23, 3, .inl (.goto 19)), (26, 1, .inl (.aload_n 0)), (27, 3, .inr (1, 26, 1, 4, 1140, 0)), (30, 1, .inl (.aload_n 0)), (31, 3, .inr (1, 9, 1, 0, 1136, 0)),
  (34, 1, .inl (.aload_n 0)), (35, 3, .inr (0, 54, 1, 8, 1144, 0)), (38, 1, .inl (.iload_n 1)), (39, 3, .inr (4, 169, 200, 504, 4121, 1)), (42, 1, .inl .ireturn)]
set_option maxRecDepth 100000 in
theorem okX2_nameNumber : ckM (mt mX2_nameNumber) kX2_nameNumber = true := by decide +kernel
def kX2_open : CD := [
  (0, 1, .inl (.aload_n 0)), (1, 3, .inr (1, 37, 1, 6, 1142, 0)), (4, 3, .inr (4, 60, 168, 201, 3239, 1)), (7, 2, .inl (.bipush 60)), (9, 3, .inl (.if_icmp .lt 12)), (12, 1, .inl (.aload_n 0)),
  (13, 1, .inl (.aload_n 0)), (14, 3, .inr (0, 54, 1, 8, 1144, 0)), (17, 3, .inr (2, 46, 1, 9, 1145, 0)), (20, 1, .inl .return_), (21, 1, .inl (.aload_n 0)), (22, 3, .inr (1, 34, 1, 5, 1141, 0)),
  (25, 2, .inl (.bipush 15)), (27, 3, .inr (4, 79, 171, 202, 4008, 0)), (30, 1, .inl (.aload_n 0)), (31, 3, .inr (1, 37, 1, 6, 1142, 0)), (34, 1, .inl (.iload_n 1)), (35, 3, .inr (4, 79, 171, 202, 4008, 0)),
  (38, 1, .inl (.aload_n 0)), (39, 3, .inr (1, 40, 1, 7, 1143, 0)), (42, 1, .inl (.iconst 0)), (43, 3, .inr (4, 79, 171, 202, 4008, 0)), (46, 1, .inl (.aload_n 0)), (47, 1, .inl (.iload_n 2)),
  (48, 3, .inr (2, 54, 1, 8, 1144, 0)), (51, 1, .inl .return_)]
set_option maxRecDepth 100000 in
theorem okX2_open : ckM (mt mX2_open) kX2_open = true := by decide +kernel
def kX2_isInCall : CD := [
  (0, 1, .inl (.aload_n 0)), (1, 3, .inr (1, 37, 1, 6, 1142, 0)), (4, 3, .inr (4, 60, 168, 201, 3239, 1)), (7, 3, .inl (.ifCond .le 18)), (10, 1, .inl (.aload_n 0)), (11, 3, .inr (1, 37, 1, 6, 1142, 0)),
  (14, 3, .inr (4, 130, 170, 201, 4021, 1)), (17, 1, .inl (.iconst (-1))), (18, 3, .inl (.if_icmp .eq 7)), (21, 1, .inl (.iconst 1)), (22, 3, .inl (.goto 4)), (25, 1, .inl (.iconst 0)),
  (26, 1, .inr (11, 0, 0, 0, 0, 0))]
set_option maxRecDepth 100000 in
theorem okX2_isInCall : ckM (mt mX2_isInCall) kX2_isInCall = true := by decide +kernel
def kX2_leaveOut : CD := [
  (0, 1, .inl (.aload_n 0)), (1, 3, .inr (4, 171, 152, 101, 4017, 1)), (4, 3, .inl (.ifCond .eq 15)), (7, 1, .inl (.aload_n 0)), (8, 3, .inr (1, 34, 1, 5, 1141, 0)), (11, 3, .inr (4, 130, 170, 201, 4021, 1)),
  (14, 2, .inl (.bipush 15)), (16, 3, .inl (.if_icmp .eq 12)), (19, 1, .inl (.aload_n 0)), (20, 1, .inl (.aload_n 0)), (21, 3, .inr (0, 54, 1, 8, 1144, 0)), (24, 3, .inr (2, 46, 1, 9, 1145, 0)),
  (27, 1, .inl .return_), (28, 1, .inl (.iload_n 1)), (29, 2, .inl (.bipush 41)), (31, 3, .inl (.if_icmp .ne 17)), (34, 1, .inl (.aload_n 0)), (35, 3, .inr (1, 40, 1, 7, 1143, 0)),
  (38, 3, .inr (4, 130, 170, 201, 4021, 1)), (41, 3, .inl (.ifCond .ne 7)), (44, 1, .inl (.iconst 1)), (45, 3, .inl (.goto 4)), (48, 1, .inl (.iconst 0)), (49, 1, .inl (.istore_n 2)),
  (50, 1, .inl (.iload_n 2)), (51, 3, .inl (.ifCond .ne 16)), (54, 1, .inl (.aload_n 0)), (55, 3, .inr (1, 15, 1, 1, 1137, 0)), (58, 2, .inl (.bipush 7)), (60, 1, .inl (.iconst 0)),
  (61, 3, .inr (4, 133, 23, 9902, 4022, 1)), (64, 3, .inr (4, 79, 171, 202, 4008, 0)), (67, 1, .inl (.iload_n 1)), (68, 2, .inl (.bipush 44)), (70, 3, .inl (.if_icmp .ne 10)), (73, 1, .inl (.aload_n 0)),
  (74, 3, .inr (4, 175, 154, 101, 4025, 0)), (77, 3, .inl (.goto 24)), (80, 1, .inl (.aload_n 0)), (81, 1, .inl (.iload_n 2)), (82, 3, .inl (.ifCond .eq 7)), (85, 1, .inl (.iconst 0)),
  (86, 3, .inl (.goto 12)), (89, 1, .inl (.aload_n 0)), (90, 3, .inr (1, 40, 1, 7, 1143, 0)), (93, 3, .inr (4, 130, 170, 201, 4021, 1)), (96, 1, .inl (.iconst 1)), (97, 1, .inl .iadd),
  (98, 3, .inr (4, 178, 155, 102, 4030, 0)), (101, 1, .inl .return_)]
set_option maxRecDepth 100000 in
theorem okX2_leaveOut : ckM (mt mX2_leaveOut) kX2_leaveOut = true := by decide +kernel
def kX2_passComma : CD := [
  (0, 1, .inl (.aload_n 0)), (1, 3, .inr (1, 40, 1, 7, 1143, 0)), (4, 3, .inr (4, 130, 170, 201, 4021, 1)), (7, 1, .inl (.iconst 1)), (8, 1, .inl .iadd), (9, 1, .inl (.istore_n 1)),
  (10, 1, .inl (.iload_n 1)), (11, 2, .inl (.bipush 30)), (13, 3, .inl (.if_icmp .lt 12)), (16, 1, .inl (.aload_n 0)), (17, 1, .inl (.aload_n 0)), (18, 3, .inr (0, 54, 1, 8, 1144, 0)),
  (21, 3, .inr (2, 46, 1, 9, 1145, 0)), (24, 1, .inl .return_), (25, 1, .inl (.aload_n 0)), (26, 3, .inr (1, 40, 1, 7, 1143, 0)), (29, 1, .inl (.iload_n 1)), (30, 3, .inr (4, 181, 172, 202, 4029, 0)),
  (33, 1, .inl (.aload_n 0)), (34, 1, .inl .dup), (35, 3, .inr (0, 54, 1, 8, 1144, 0)), (38, 1, .inl (.iconst 1)), (39, 1, .inl .iadd), (40, 3, .inr (2, 54, 1, 8, 1144, 0)),
  (43, 1, .inl (.aload_n 0)), (44, 1, .inl (.iconst 0)), (45, 3, .inr (2, 57, 1, 10, 1146, 0)), (48, 1, .inl .return_)]
set_option maxRecDepth 100000 in
theorem okX2_passComma : ckM (mt mX2_passComma) kX2_passComma = true := by decide +kernel
def kX2_closeCall : CD := [
  (0, 1, .inl (.aload_n 0)), (1, 3, .inr (1, 37, 1, 6, 1142, 0)), (4, 3, .inr (4, 130, 170, 201, 4021, 1)), (7, 1, .inl (.istore_n 2)), (8, 1, .inl (.iload_n 2)), (9, 3, .inl (.sipush 1000)),
  (12, 3, .inl (.if_icmp .lt 31)), (15, 1, .inl (.aload_n 0)), (16, 3, .inr (1, 15, 1, 1, 1137, 0)), (19, 2, .inl (.bipush 11)), (21, 1, .inl (.iload_n 1)), (22, 3, .inr (4, 133, 23, 9902, 4022, 1)),
  (25, 3, .inr (4, 79, 171, 202, 4008, 0)), (28, 1, .inl (.aload_n 0)), (29, 3, .inr (1, 15, 1, 1, 1137, 0)), (32, 1, .inl (.iload_n 2)), (33, 3, .inl (.sipush 1000)), (36, 1, .inl .isub),
  (37, 3, .inr (4, 79, 171, 202, 4008, 0)), (40, 3, .inl (.goto 57)), (43, 1, .inl (.iload_n 2)), (44, 3, .inl (.ifCond .lt 44)), (47, 1, .inl (.iload_n 2)), (48, 3, .inr (8, 184, 0, 0, 4034, 0)),
  (51, 1, .inr (13, 0, 0, 0, 0, 0)), (52, 3, .inl (.if_icmp .ge 36)), (55, 3, .inr (8, 184, 0, 0, 4034, 0)), (58, 1, .inl (.iload_n 2)), (59, 1, .inl .aaload), (60, 1, .inl (.iload_n 1)),
  (61, 3, .inr (12, 188, 0, 0, 4035, 0)), (64, 3, .inl (.ifCond .eq 24)), (67, 1, .inl (.aload_n 0)), (68, 3, .inr (1, 15, 1, 1, 1137, 0)), (71, 2, .inl (.bipush 10)), (73, 1, .inl (.iload_n 1)),
  (74, 2, .inl (.bipush 64)), (76, 1, .inl (.iload_n 2)), (77, 1, .inl .imul), (78, 1, .inl .iadd), (79, 3, .inr (4, 133, 23, 9902, 4022, 1)), (82, 3, .inr (4, 79, 171, 202, 4008, 0)),
  (85, 3, .inl (.goto 12)), (88, 1, .inl (.aload_n 0)), (89, 1, .inl (.aload_n 0)), (90, 3, .inr (0, 54, 1, 8, 1144, 0)), (93, 3, .inr (2, 46, 1, 9, 1145, 0)), (96, 1, .inl .return_),
  (97, 1, .inl (.aload_n 0)), (98, 3, .inr (4, 193, 156, 101, 4039, 0)), (101, 1, .inl .return_)]
def kX2_leave : CD := [
  (0, 1, .inl (.aload_n 0)), (1, 3, .inr (1, 34, 1, 5, 1141, 0)), (4, 3, .inr (4, 137, 176, 201, 4043, 0)), (7, 1, .inl (.aload_n 0)), (8, 3, .inr (1, 37, 1, 6, 1142, 0)), (11, 3, .inr (4, 137, 176, 201, 4043, 0)),
  (14, 1, .inl (.aload_n 0)), (15, 3, .inr (1, 40, 1, 7, 1143, 0)), (18, 3, .inr (4, 137, 176, 201, 4043, 0)), (21, 1, .inl (.aload_n 0)), (22, 1, .inl .dup), (23, 3, .inr (0, 54, 1, 8, 1144, 0)),
  (26, 1, .inl (.iconst 1)), (27, 1, .inl .iadd), (28, 3, .inr (2, 54, 1, 8, 1144, 0)), (31, 1, .inl (.aload_n 0)), (32, 3, .inr (4, 127, 146, 101, 4044, 0)), (35, 1, .inl .return_)]
set_option maxRecDepth 100000 in
theorem okX2_leave : ckM (mt mX2_leave) kX2_leave = true := by decide +kernel
def kX2_readOperator : CD := [
  (0, 1, .inl (.aload_n 0)), (1, 3, .inr (1, 9, 1, 0, 1136, 0)), (4, 1, .inl (.aload_n 0)), (5, 3, .inr (0, 54, 1, 8, 1144, 0)), (8, 3, .inr (4, 50, 169, 202, 3238, 1)), (11, 1, .inl (.istore_n 1)),
  (12, 1, .inl (.aload_n 0)), (13, 3, .inr (0, 54, 1, 8, 1144, 0)), (16, 1, .inl (.aload_n 0)), (17, 3, .inr (1, 9, 1, 0, 1136, 0)), (20, 3, .inr (4, 60, 168, 201, 3239, 1)), (23, 3, .inl (.if_icmp .lt 10)),
  (26, 1, .inl (.aload_n 0)), (27, 3, .inr (4, 196, 158, 101, 4154, 0)), (30, 3, .inl (.goto 95)), (33, 1, .inl (.iload_n 1)), (34, 2, .inl (.bipush 37)), (36, 3, .inl (.if_icmp .ne 30)),
  (39, 1, .inl (.aload_n 0)), (40, 3, .inr (1, 15, 1, 1, 1137, 0)), (43, 2, .inl (.bipush 9)), (45, 2, .inl (.bipush 12)), (47, 3, .inr (4, 133, 23, 9902, 4022, 1)), (50, 3, .inr (4, 79, 171, 202, 4008, 0)),
  (53, 1, .inl (.aload_n 0)), (54, 1, .inl .dup), (55, 3, .inr (0, 54, 1, 8, 1144, 0)), (58, 1, .inl (.iconst 1)), (59, 1, .inl .iadd), (60, 3, .inr (2, 54, 1, 8, 1144, 0)),
  (63, 3, .inl (.goto 62)), (66, 1, .inl (.iload_n 1)), (67, 2, .inl (.bipush 41)), (69, 3, .inl (.if_icmp .ne 10)), (72, 1, .inl (.aload_n 0)), (73, 3, .inr (4, 199, 159, 101, 4165, 0)),
  (76, 3, .inl (.goto 49)), (79, 1, .inl (.iload_n 1)), (80, 2, .inl (.bipush 44)), (82, 3, .inl (.if_icmp .ne 22)), (85, 1, .inl (.aload_n 0)), (86, 3, .inr (4, 171, 152, 101, 4017, 1)),
  (89, 3, .inl (.ifCond .eq 15)), (92, 1, .inl (.aload_n 0)), (93, 1, .inl (.iconst 1)), (94, 3, .inr (4, 202, 161, 102, 4158, 0)), (97, 1, .inl (.aload_n 0)), (98, 3, .inr (4, 175, 154, 101, 4025, 0)),
  (101, 3, .inl (.goto 24)), (104, 1, .inl (.aload_n 0)), (105, 1, .inl (.iload_n 1)), (106, 1, .inl (.aload_n 0)), (107, 3, .inr (1, 9, 1, 0, 1136, 0)), (110, 1, .inl (.aload_n 0)),
  (111, 3, .inr (0, 54, 1, 8, 1144, 0)), (114, 1, .inl (.iconst 1)), (115, 1, .inl .iadd), (116, 3, .inr (4, 50, 169, 202, 3238, 1)), (119, 3, .inr (4, 205, 162, 9902, 4169, 1)), (122, 3, .inr (4, 208, 160, 102, 4172, 0)),
  (125, 1, .inl .return_)]
set_option maxRecDepth 100000 in
theorem okX2_readOperator : ckM (mt mX2_readOperator) kX2_readOperator = true := by decide +kernel
def kX2_endText : CD := [
  (0, 1, .inl (.aload_n 0)), (1, 3, .inr (1, 37, 1, 6, 1142, 0)), (4, 3, .inr (4, 60, 168, 201, 3239, 1)), (7, 3, .inl (.ifCond .le 12)), (10, 1, .inl (.aload_n 0)), (11, 1, .inl (.aload_n 0)),
  (12, 3, .inr (0, 54, 1, 8, 1144, 0)), (15, 3, .inr (2, 46, 1, 9, 1145, 0)), (18, 1, .inl .return_), (19, 1, .inl (.aload_n 0)), (20, 1, .inl (.iconst 1)), (21, 3, .inr (4, 202, 161, 102, 4158, 0)),
  (24, 1, .inl (.aload_n 0)), (25, 1, .inl (.iconst 4)), (26, 3, .inr (2, 57, 1, 10, 1146, 0)), (29, 1, .inl .return_)]
set_option maxRecDepth 100000 in
theorem okX2_endText : ckM (mt mX2_endText) kX2_endText = true := by decide +kernel
def kX2_closeBracket : CD := [
  (0, 1, .inl (.aload_n 0)), (1, 3, .inr (1, 37, 1, 6, 1142, 0)), (4, 3, .inr (4, 60, 168, 201, 3239, 1)), (7, 3, .inl (.ifCond .ne 12)), (10, 1, .inl (.aload_n 0)), (11, 1, .inl (.aload_n 0)),
  (12, 3, .inr (0, 54, 1, 8, 1144, 0)), (15, 3, .inr (2, 46, 1, 9, 1145, 0)), (18, 1, .inl .return_), (19, 1, .inl (.aload_n 0)), (20, 1, .inl (.iconst 1)), (21, 3, .inr (4, 202, 161, 102, 4158, 0)),
  (24, 1, .inl (.aload_n 0)), (25, 3, .inr (4, 171, 152, 101, 4017, 1)), (28, 3, .inl (.ifCond .eq 19)), (31, 1, .inl (.aload_n 0)), (32, 1, .inl (.aload_n 0)), (33, 3, .inr (1, 40, 1, 7, 1143, 0)),
  (36, 3, .inr (4, 130, 170, 201, 4021, 1)), (39, 1, .inl (.iconst 1)), (40, 1, .inl .iadd), (41, 3, .inr (4, 178, 155, 102, 4030, 0)), (44, 3, .inl (.goto 21)), (47, 1, .inl (.aload_n 0)),
  (48, 3, .inr (1, 15, 1, 1, 1137, 0)), (51, 2, .inl (.bipush 9)), (53, 2, .inl (.bipush 15)), (55, 3, .inr (4, 133, 23, 9902, 4022, 1)), (58, 3, .inr (4, 79, 171, 202, 4008, 0)), (61, 1, .inl (.aload_n 0)),
  (62, 3, .inr (4, 193, 156, 101, 4039, 0)), (65, 1, .inl .return_)]
set_option maxRecDepth 100000 in
theorem okX2_closeBracket : ckM (mt mX2_closeBracket) kX2_closeBracket = true := by decide +kernel
def kX2_joinOperands : CD := [
  (0, 1, .inl (.iload_n 1)), (1, 1, .inl (.iconst (-1))), (2, 3, .inl (.if_icmp .ne 12)), (5, 1, .inl (.aload_n 0)), (6, 1, .inl (.aload_n 0)), (7, 3, .inr (0, 54, 1, 8, 1144, 0)),
  (10, 3, .inr (2, 46, 1, 9, 1145, 0)), (13, 1, .inl .return_), (14, 1, .inl (.aload_n 0)), (15, 1, .inl (.iload_n 1)), (16, 3, .inr (4, 211, 163, 9901, 4162, 1)), (19, 3, .inr (4, 202, 161, 102, 4158, 0)),
  (22, 1, .inl (.aload_n 0)), (23, 3, .inr (1, 34, 1, 5, 1141, 0)), (26, 1, .inl (.iload_n 1)), (27, 3, .inr (4, 79, 171, 202, 4008, 0)), (30, 1, .inl (.aload_n 0)), (31, 1, .inl .dup),
  (32, 3, .inr (0, 54, 1, 8, 1144, 0)), (35, 1, .inl (.iload_n 1)), (36, 3, .inr (4, 214, 22, 9901, 4176, 3)), (39, 3, .inr (4, 218, 203, 801, 4177, 1)), (42, 1, .inl .iadd), (43, 3, .inr (2, 54, 1, 8, 1144, 0)),
  (46, 1, .inl (.aload_n 0)), (47, 1, .inl (.iconst 0)), (48, 3, .inr (2, 57, 1, 10, 1146, 0)), (51, 1, .inl .return_)]
set_option maxRecDepth 100000 in
theorem okX2_joinOperands : ckM (mt mX2_joinOperands) kX2_joinOperands = true := by decide +kernel
def kX2_writeWaiting : CD := [
  (0, 1, .inl (.aload_n 0)), (1, 3, .inr (1, 34, 1, 5, 1141, 0)), (4, 3, .inr (4, 60, 168, 201, 3239, 1)), (7, 1, .inl (.istore_n 2)), (8, 1, .inl (.iload_n 2)), (9, 3, .inl (.ifCond .le 49)),
  (12, 1, .inl (.aload_n 0)), (13, 3, .inr (1, 34, 1, 5, 1141, 0)), (16, 3, .inr (4, 130, 170, 201, 4021, 1)), (19, 3, .inr (4, 211, 163, 9901, 4162, 1)), (22, 1, .inl (.iload_n 1)), (23, 3, .inl (.if_icmp .lt 35)),
  (26, 1, .inl (.aload_n 0)), (27, 3, .inr (1, 15, 1, 1, 1137, 0)), (30, 2, .inl (.bipush 9)), (32, 1, .inl (.aload_n 0)), (33, 3, .inr (1, 34, 1, 5, 1141, 0)), (36, 3, .inr (4, 130, 170, 201, 4021, 1)),
  (39, 3, .inr (4, 133, 23, 9902, 4022, 1)), (42, 3, .inr (4, 79, 171, 202, 4008, 0)), (45, 1, .inl (.aload_n 0)), (46, 3, .inr (1, 34, 1, 5, 1141, 0)), (49, 3, .inr (4, 137, 176, 201, 4043, 0)), (52, 3, .inl (.iinc 2 (-1))),
  (55, 3, .inl (.goto (-47))), (58, 1, .inl .return_)]
set_option maxRecDepth 100000 in
theorem okX2_writeWaiting : ckM (mt mX2_writeWaiting) kX2_writeWaiting = true := by decide +kernel
def kX2_operationAt : CD := [
  (0, 1, .inl (.iload_n 0)), (1, 83, .inl (.lookupswitch 137 #[(38, 119), (42, 128), (43, 122), (45, 125), (47, 131), (60, 85), (61, 83), (62, 107), (94, 134)])), (84, 1, .inl (.iconst 0)), (85, 1, .inl .ireturn), (86, 1, .inl (.iload_n 1)), (87, 2, .inl (.bipush 62)),
  (89, 3, .inl (.if_icmp .ne 7)), (92, 1, .inl (.iconst 1)), (93, 3, .inl (.goto 14)), (96, 1, .inl (.iload_n 1)), (97, 2, .inl (.bipush 61)), (99, 3, .inl (.if_icmp .ne 7)),
  (102, 1, .inl (.iconst 3)), (103, 3, .inl (.goto 4)), (106, 1, .inl (.iconst 2)), (107, 1, .inl .ireturn), (108, 1, .inl (.iload_n 1)), (109, 2, .inl (.bipush 61)),
  (111, 3, .inl (.if_icmp .ne 7)), (114, 1, .inl (.iconst 5)), (115, 3, .inl (.goto 4)), (118, 1, .inl (.iconst 4)), (119, 1, .inl .ireturn), (120, 2, .inl (.bipush 6)),
  (122, 1, .inl .ireturn), (123, 2, .inl (.bipush 7)), (125, 1, .inl .ireturn), (126, 2, .inl (.bipush 8)), (128, 1, .inl .ireturn), (129, 2, .inl (.bipush 9)),
  (131, 1, .inl .ireturn), (132, 2, .inl (.bipush 10)), (134, 1, .inl .ireturn), (135, 2, .inl (.bipush 11)), (137, 1, .inl .ireturn), (138, 1, .inl (.iconst (-1))),
  (139, 1, .inl .ireturn)]
set_option maxRecDepth 100000 in
theorem okX2_operationAt : ckM (mt mX2_operationAt) kX2_operationAt = true := by decide +kernel
def kX2_tightness : CD := [
  (0, 1, .inl (.iload_n 0)), (1, 3, .inl (.ifCond .lt 9)), (4, 1, .inl (.iload_n 0)), (5, 2, .inl (.bipush 11)), (7, 3, .inl (.if_icmp .le 5)), (10, 1, .inl (.iconst 0)),
  (11, 1, .inl .ireturn), (12, 1, .inl (.iload_n 0)), (13, 1, .inl (.iconst 5)), (14, 3, .inl (.if_icmp .gt 7)), (17, 1, .inl (.iconst 1)), (18, 3, .inl (.goto 34)),
  (21, 1, .inl (.iload_n 0)), (22, 2, .inl (.bipush 6)), (24, 3, .inl (.if_icmp .ne 7)), (27, 1, .inl (.iconst 2)), (28, 3, .inl (.goto 24)), (31, 1, .inl (.iload_n 0)),
  (32, 2, .inl (.bipush 8)), (34, 3, .inl (.if_icmp .gt 7)), (37, 1, .inl (.iconst 3)), (38, 3, .inl (.goto 14)), (41, 1, .inl (.iload_n 0)), (42, 2, .inl (.bipush 10)),
  (44, 3, .inl (.if_icmp .gt 7)), (47, 1, .inl (.iconst 4)), (48, 3, .inl (.goto 4)), (51, 1, .inl (.iconst 5)), (52, 1, .inl .ireturn)]
set_option maxRecDepth 100000 in
theorem okX2_tightness : ckM (mt mX2_tightness) kX2_tightness = true := by decide +kernel
def kX2_openArray : CD := [
  (0, 1, .inl (.aload_n 0)), (1, 3, .inr (1, 37, 1, 6, 1142, 0)), (4, 3, .inr (4, 60, 168, 201, 3239, 1)), (7, 2, .inl (.bipush 60)), (9, 3, .inl (.if_icmp .lt 12)), (12, 1, .inl (.aload_n 0)),
  (13, 1, .inl (.aload_n 0)), (14, 3, .inr (0, 54, 1, 8, 1144, 0)), (17, 3, .inr (2, 46, 1, 9, 1145, 0)), (20, 1, .inl .return_), (21, 1, .inl (.aload_n 0)), (22, 1, .inl (.iconst 0)),
  (23, 3, .inr (2, 223, 1, 11, 1147, 0)), (26, 1, .inl (.aload_n 0)), (27, 1, .inl (.iconst 0)), (28, 3, .inr (2, 226, 1, 12, 1148, 0)), (31, 1, .inl (.aload_n 0)), (32, 1, .inl (.iconst 1)),
  (33, 3, .inr (2, 229, 1, 13, 1149, 0)), (36, 1, .inl (.aload_n 0)), (37, 1, .inl (.iconst (-1))), (38, 3, .inr (2, 232, 1, 14, 1150, 0)), (41, 1, .inl (.aload_n 0)), (42, 1, .inl .dup),
  (43, 3, .inr (0, 54, 1, 8, 1144, 0)), (46, 1, .inl (.iconst 1)), (47, 1, .inl .iadd), (48, 3, .inr (2, 54, 1, 8, 1144, 0)), (51, 1, .inl (.aload_n 0)), (52, 1, .inl (.iconst 2)),
  (53, 3, .inr (2, 57, 1, 10, 1146, 0)), (56, 1, .inl .return_)]
set_option maxRecDepth 100000 in
theorem okX2_openArray : ckM (mt mX2_openArray) kX2_openArray = true := by decide +kernel
def kX2_readElement : CD := [
  (0, 1, .inl (.aload_n 0)), (1, 3, .inr (1, 9, 1, 0, 1136, 0)), (4, 1, .inl (.aload_n 0)), (5, 3, .inr (0, 54, 1, 8, 1144, 0)), (8, 3, .inr (4, 50, 169, 202, 3238, 1)), (11, 2, .inl (.bipush 45)),
  (13, 3, .inl (.if_icmp .ne 7)), (16, 1, .inl (.iconst 1)), (17, 3, .inl (.goto 4)), (20, 1, .inl (.iconst 0)), (21, 1, .inl (.istore_n 1)), (22, 1, .inl (.aload_n 0)),
  (23, 1, .inl .dup), (24, 3, .inr (0, 54, 1, 8, 1144, 0)), (27, 1, .inl (.iload_n 1)), (28, 1, .inl .iadd), (29, 3, .inr (2, 54, 1, 8, 1144, 0)), (32, 1, .inl (.aload_n 0)),
  (33, 3, .inr (4, 64, 143, 101, 4000, 0)), (36, 1, .inl (.aload_n 0)), (37, 1, .inl (.aload_n 0)), (38, 3, .inr (1, 9, 1, 0, 1136, 0)), (41, 1, .inl (.aload_n 0)), (42, 3, .inr (0, 54, 1, 8, 1144, 0)),
  (45, 3, .inr (4, 50, 169, 202, 3238, 1)), (48, 1, .inl (.iload_n 1)), (49, 3, .inr (4, 235, 166, 103, 4182, 1)), (52, 3, .inl (.ifCond .ne 12)), (55, 1, .inl (.aload_n 0)), (56, 1, .inl (.aload_n 0)),
  (57, 3, .inr (0, 54, 1, 8, 1144, 0)), (60, 3, .inr (2, 46, 1, 9, 1145, 0)), (63, 1, .inl .return_), (64, 1, .inl (.aload_n 0)), (65, 1, .inl (.aload_n 0)), (66, 3, .inr (1, 18, 1, 2, 1138, 0)),
  (69, 3, .inr (4, 124, 179, 301, 4068, 1)), (72, 3, .inr (2, 54, 1, 8, 1144, 0)), (75, 1, .inl (.aload_n 0)), (76, 1, .inl .dup), (77, 3, .inr (0, 223, 1, 11, 1147, 0)), (80, 1, .inl (.iconst 1)),
  (81, 1, .inl .iadd), (82, 3, .inr (2, 223, 1, 11, 1147, 0)), (85, 1, .inl (.aload_n 0)), (86, 1, .inl .dup), (87, 3, .inr (0, 226, 1, 12, 1148, 0)), (90, 1, .inl (.iconst 1)),
  (91, 1, .inl .iadd), (92, 3, .inr (2, 226, 1, 12, 1148, 0)), (95, 1, .inl (.aload_n 0)), (96, 1, .inl (.iconst 3)), (97, 3, .inr (2, 57, 1, 10, 1146, 0)), (100, 1, .inl .return_)]
set_option maxRecDepth 100000 in
theorem okX2_readElement : ckM (mt mX2_readElement) kX2_readElement = true := by decide +kernel
def kX2_isElement : CD := [
  (0, 1, .inl (.iload_n 1)), (1, 3, .inr (4, 238, 13, 9901, 4186, 1)), (4, 3, .inl (.ifCond .ne 9)), (7, 1, .inl (.iload_n 1)), (8, 2, .inl (.bipush 46)), (10, 3, .inl (.if_icmp .ne 38)),
  (13, 1, .inl (.aload_n 0)), (14, 3, .inr (1, 18, 1, 2, 1138, 0)), (17, 1, .inl (.aload_n 0)), (18, 3, .inr (0, 54, 1, 8, 1144, 0)), (21, 3, .inr (4, 114, 191, 302, 4093, 1)), (24, 3, .inl (.ifCond .ne 22)),
  (27, 1, .inl (.aload_n 0)), (28, 3, .inr (1, 18, 1, 2, 1138, 0)), (31, 1, .inl (.aload_n 0)), (32, 3, .inr (0, 54, 1, 8, 1144, 0)), (35, 1, .inl (.iload_n 2)), (36, 3, .inr (4, 120, 183, 303, 4126, 1)),
  (39, 3, .inl (.ifCond .eq 7)), (42, 1, .inl (.iconst 1)), (43, 3, .inl (.goto 4)), (46, 1, .inl (.iconst 0)), (47, 1, .inr (11, 0, 0, 0, 0, 0)), (48, 1, .inl (.iload_n 2)),
  (49, 1, .inl (.iconst 1)), (50, 3, .inl (.if_icmp .ne 5)), (53, 1, .inl (.iconst 0)), (54, 1, .inr (11, 0, 0, 0, 0, 0)), (55, 1, .inl (.iload_n 1)), (56, 2, .inl (.bipush 34)),
  (58, 3, .inl (.if_icmp .ne 15)), (61, 1, .inl (.aload_n 0)), (62, 3, .inr (1, 18, 1, 2, 1138, 0)), (65, 1, .inl (.aload_n 0)), (66, 3, .inr (0, 54, 1, 8, 1144, 0)), (69, 3, .inr (4, 92, 188, 302, 4052, 1)),
  (72, 1, .inr (11, 0, 0, 0, 0, 0)), (73, 1, .inl (.iload_n 1)), (74, 2, .inl (.bipush 35)), (76, 3, .inl (.if_icmp .ne 15)), (79, 1, .inl (.aload_n 0)), (80, 3, .inr (1, 18, 1, 2, 1138, 0)),
  (83, 1, .inl (.aload_n 0)), (84, 3, .inr (0, 54, 1, 8, 1144, 0)), (87, 3, .inr (4, 102, 189, 302, 4072, 1)), (90, 1, .inr (11, 0, 0, 0, 0, 0)), (91, 1, .inl (.aload_n 0)), (92, 3, .inr (1, 9, 1, 0, 1136, 0)),
  (95, 1, .inl (.aload_n 0)), (96, 3, .inr (0, 54, 1, 8, 1144, 0)), (99, 3, .inr (4, 156, 17, 9902, 4111, 1)), (102, 1, .inl (.istore_n 3)), (103, 1, .inl (.aload_n 0)), (104, 3, .inr (1, 9, 1, 0, 1136, 0)),
  (107, 1, .inl (.iload_n 3)), (108, 3, .inr (4, 50, 169, 202, 3238, 1)), (111, 2, .inl (.istore 4)), (113, 2, .inl (.iload 4)), (115, 2, .inl (.bipush 40)), (117, 3, .inl (.if_icmp .eq 29)),
  (120, 2, .inl (.iload 4)), (122, 2, .inl (.bipush 33)), (124, 3, .inl (.if_icmp .eq 22)), (127, 1, .inl (.aload_n 0)), (128, 3, .inr (1, 18, 1, 2, 1138, 0)), (131, 1, .inl (.aload_n 0)),
  (132, 3, .inr (0, 54, 1, 8, 1144, 0)), (135, 1, .inl (.iload_n 3)), (136, 3, .inr (4, 166, 190, 303, 4122, 1)), (139, 3, .inl (.ifCond .eq 7)), (142, 1, .inl (.iconst 1)), (143, 3, .inl (.goto 4)),
  (146, 1, .inl (.iconst 0)), (147, 1, .inr (11, 0, 0, 0, 0, 0))]
set_option maxRecDepth 100000 in
theorem okX2_isElement : ckM (mt mX2_isElement) kX2_isElement = true := by decide +kernel
def kX2_readSeparator : CD := [
  (0, 1, .inl (.aload_n 0)), (1, 3, .inr (1, 9, 1, 0, 1136, 0)), (4, 1, .inl (.aload_n 0)), (5, 3, .inr (0, 54, 1, 8, 1144, 0)), (8, 3, .inr (4, 50, 169, 202, 3238, 1)), (11, 1, .inl (.istore_n 1)),
  (12, 1, .inl (.aload_n 0)), (13, 3, .inr (0, 232, 1, 14, 1150, 0)), (16, 1, .inl (.iconst (-1))), (17, 3, .inl (.if_icmp .eq 14)), (20, 1, .inl (.aload_n 0)), (21, 3, .inr (0, 226, 1, 12, 1148, 0)),
  (24, 1, .inl (.aload_n 0)), (25, 3, .inr (0, 232, 1, 14, 1150, 0)), (28, 3, .inl (.if_icmp .ne 7)), (31, 1, .inl (.iconst 1)), (32, 3, .inl (.goto 4)), (35, 1, .inl (.iconst 0)),
  (36, 1, .inl (.istore_n 2)), (37, 1, .inl (.aload_n 0)), (38, 3, .inr (0, 223, 1, 11, 1147, 0)), (41, 3, .inl (.sipush 256)), (44, 3, .inl (.if_icmp .ge 7)), (47, 1, .inl (.iconst 1)),
  (48, 3, .inl (.goto 4)), (51, 1, .inl (.iconst 0)), (52, 1, .inl (.istore_n 3)), (53, 1, .inl (.iload_n 1)), (54, 2, .inl (.bipush 44)), (56, 3, .inl (.if_icmp .ne 44)),
  (59, 1, .inl (.iload_n 3)), (60, 3, .inl (.ifCond .eq 40)), (63, 1, .inl (.aload_n 0)), (64, 3, .inr (0, 232, 1, 14, 1150, 0)), (67, 1, .inl (.iconst (-1))), (68, 3, .inl (.if_icmp .eq 14)),
  (71, 1, .inl (.aload_n 0)), (72, 3, .inr (0, 226, 1, 12, 1148, 0)), (75, 1, .inl (.aload_n 0)), (76, 3, .inr (0, 232, 1, 14, 1150, 0)), (79, 3, .inl (.if_icmp .ge 21)), (82, 1, .inl (.aload_n 0)),
  (83, 1, .inl (.iconst 2)), (84, 3, .inr (2, 57, 1, 10, 1146, 0)), (87, 1, .inl (.aload_n 0)), (88, 1, .inl .dup), (89, 3, .inr (0, 54, 1, 8, 1144, 0)), (92, 1, .inl (.iconst 1)),
  (93, 1, .inl .iadd), (94, 3, .inr (2, 54, 1, 8, 1144, 0)), (97, 3, .inl (.goto 120)), (100, 1, .inl (.iload_n 1)), (101, 2, .inl (.bipush 59)), (103, 3, .inl (.if_icmp .ne 52)),
  (106, 1, .inl (.iload_n 3)), (107, 3, .inl (.ifCond .eq 48)), (110, 1, .inl (.iload_n 2)), (111, 3, .inl (.ifCond .eq 44)), (114, 1, .inl (.aload_n 0)), (115, 1, .inl (.aload_n 0)),
  (116, 3, .inr (0, 226, 1, 12, 1148, 0)), (119, 3, .inr (2, 232, 1, 14, 1150, 0)), (122, 1, .inl (.aload_n 0)), (123, 1, .inl (.iconst 0)), (124, 3, .inr (2, 226, 1, 12, 1148, 0)), (127, 1, .inl (.aload_n 0)),
  (128, 1, .inl .dup), (129, 3, .inr (0, 229, 1, 13, 1149, 0)), (132, 1, .inl (.iconst 1)), (133, 1, .inl .iadd), (134, 3, .inr (2, 229, 1, 13, 1149, 0)), (137, 1, .inl (.aload_n 0)),
  (138, 1, .inl (.iconst 2)), (139, 3, .inr (2, 57, 1, 10, 1146, 0)), (142, 1, .inl (.aload_n 0)), (143, 1, .inl .dup), (144, 3, .inr (0, 54, 1, 8, 1144, 0)), (147, 1, .inl (.iconst 1)),
  (148, 1, .inl .iadd), (149, 3, .inr (2, 54, 1, 8, 1144, 0)), (152, 3, .inl (.goto 65)), (155, 1, .inl (.iload_n 1)), (156, 2, .inl (.bipush 125)), (158, 3, .inl (.if_icmp .ne 51)),
  (161, 1, .inl (.iload_n 2)), (162, 3, .inl (.ifCond .eq 47)), (165, 1, .inl (.aload_n 0)), (166, 3, .inr (1, 15, 1, 1, 1137, 0)), (169, 2, .inl (.bipush 8)), (171, 1, .inl (.aload_n 0)),
  (172, 3, .inr (0, 229, 1, 13, 1149, 0)), (175, 3, .inr (4, 133, 23, 9902, 4022, 1)), (178, 3, .inr (4, 79, 171, 202, 4008, 0)), (181, 1, .inl (.aload_n 0)), (182, 3, .inr (1, 15, 1, 1, 1137, 0)), (185, 1, .inl (.aload_n 0)),
  (186, 3, .inr (0, 226, 1, 12, 1148, 0)), (189, 3, .inr (4, 79, 171, 202, 4008, 0)), (192, 1, .inl (.aload_n 0)), (193, 1, .inl .dup), (194, 3, .inr (0, 54, 1, 8, 1144, 0)), (197, 1, .inl (.iconst 1)),
  (198, 1, .inl .iadd), (199, 3, .inr (2, 54, 1, 8, 1144, 0)), (202, 1, .inl (.aload_n 0)), (203, 3, .inr (4, 127, 146, 101, 4044, 0)), (206, 3, .inl (.goto 11)), (209, 1, .inl (.aload_n 0)),
  (210, 1, .inl (.aload_n 0)), (211, 3, .inr (0, 54, 1, 8, 1144, 0)), (214, 3, .inr (2, 46, 1, 9, 1145, 0)), (217, 1, .inl .return_)]
set_option maxRecDepth 100000 in
theorem okX2_readSeparator : ckM (mt mX2_readSeparator) kX2_readSeparator = true := by decide +kernel
def kX3_size : CD := [
  (0, 1, .inl (.aload_n 0)), (1, 3, .inr (0, 15, 2, 1, 1033, 0)), (4, 1, .inl .ireturn)]
set_option maxRecDepth 100000 in
theorem okX3_size : ckM (mt mX3_size) kX3_size = true := by decide +kernel
def kX3_get : CD := [
  (0, 1, .inl (.iload_n 1)), (1, 3, .inl (.ifCond .lt 29)), (4, 1, .inl (.iload_n 1)), (5, 1, .inl (.aload_n 0)), (6, 3, .inr (0, 15, 2, 1, 1033, 0)), (9, 3, .inl (.if_icmp .ge 21)),
  (12, 1, .inl (.iload_n 1)), (13, 1, .inl (.aload_n 0)), (14, 3, .inr (1, 9, 2, 0, 1032, 0)), (17, 1, .inl .arraylength), (18, 3, .inl (.if_icmp .ge 12)), (21, 1, .inl (.aload_n 0)),
  (22, 3, .inr (1, 9, 2, 0, 1032, 0)), (25, 1, .inl (.iload_n 1)), (26, 1, .inl .iaload), (27, 3, .inl (.goto 4)), (30, 1, .inl (.iconst 0)), (31, 1, .inl .ireturn)]
set_option maxRecDepth 100000 in
theorem okX3_get : ckM (mt mX3_get) kX3_get = true := by decide +kernel
def kX3_last : CD := [
  (0, 1, .inl (.aload_n 0)), (1, 3, .inr (0, 15, 2, 1, 1033, 0)), (4, 1, .inl (.iconst 1)), (5, 1, .inl .isub), (6, 1, .inl (.istore_n 1)), (7, 1, .inl (.iload_n 1)),
  (8, 3, .inl (.ifCond .lt 21)), (11, 1, .inl (.iload_n 1)), (12, 1, .inl (.aload_n 0)), (13, 3, .inr (1, 9, 2, 0, 1032, 0)), (16, 1, .inl .arraylength), (17, 3, .inl (.if_icmp .ge 12)),
  (20, 1, .inl (.aload_n 0)), (21, 3, .inr (1, 9, 2, 0, 1032, 0)), (24, 1, .inl (.iload_n 1)), (25, 1, .inl .iaload), (26, 3, .inl (.goto 4)), (29, 1, .inl (.iconst (-1))),
  (30, 1, .inl .ireturn)]
set_option maxRecDepth 100000 in
theorem okX3_last : ckM (mt mX3_last) kX3_last = true := by decide +kernel
def kX3_add : CD := [
  (0, 1, .inl (.aload_n 0)), (1, 3, .inr (0, 15, 2, 1, 1033, 0)), (4, 3, .inl (.ifCond .lt 35)), (7, 1, .inl (.aload_n 0)), (8, 3, .inr (0, 15, 2, 1, 1033, 0)), (11, 1, .inl (.aload_n 0)),
  (12, 3, .inr (1, 9, 2, 0, 1032, 0)), (15, 1, .inl .arraylength), (16, 3, .inl (.if_icmp .ge 23)), (19, 1, .inl (.aload_n 0)), (20, 3, .inr (1, 9, 2, 0, 1032, 0)), (23, 1, .inl (.aload_n 0)),
  (24, 3, .inr (0, 15, 2, 1, 1033, 0)), (27, 1, .inl (.iload_n 1)), (28, 1, .inl .iastore), (29, 1, .inl (.aload_n 0)), (30, 1, .inl .dup), (31, 3, .inr (0, 15, 2, 1, 1033, 0)),
  (34, 1, .inl (.iconst 1)), (35, 1, .inl .iadd), (36, 3, .inr (2, 15, 2, 1, 1033, 0)), (39, 1, .inl .return_)]
set_option maxRecDepth 100000 in
theorem okX3_add : ckM (mt mX3_add) kX3_add = true := by decide +kernel
def kX3_changeLast : CD := [
  (0, 1, .inl (.aload_n 0)), (1, 3, .inr (0, 15, 2, 1, 1033, 0)), (4, 1, .inl (.iconst 1)), (5, 1, .inl .isub), (6, 1, .inl (.istore_n 2)), (7, 1, .inl (.iload_n 2)),
  (8, 3, .inl (.ifCond .lt 19)), (11, 1, .inl (.iload_n 2)), (12, 1, .inl (.aload_n 0)), (13, 3, .inr (1, 9, 2, 0, 1032, 0)), (16, 1, .inl .arraylength), (17, 3, .inl (.if_icmp .ge 10)),
  (20, 1, .inl (.aload_n 0)), (21, 3, .inr (1, 9, 2, 0, 1032, 0)), (24, 1, .inl (.iload_n 2)), (25, 1, .inl (.iload_n 1)), (26, 1, .inl .iastore), (27, 1, .inl .return_)]
set_option maxRecDepth 100000 in
theorem okX3_changeLast : ckM (mt mX3_changeLast) kX3_changeLast = true := by decide +kernel
def kX3_addText : CD := [
  (0, 1, .inl (.iconst 0)), (1, 1, .inl (.istore_n 2)), (2, 1, .inl (.iload_n 2)), (3, 1, .inl (.aload_n 1)), (4, 3, .inr (4, 19, 203, 801, 2121, 1)), (7, 3, .inl (.if_icmp .ge 18)),
  (10, 1, .inl (.aload_n 0)), (11, 1, .inl (.aload_n 1)), (12, 1, .inl (.iload_n 2)), (13, 3, .inr (4, 25, 204, 802, 2131, 1)), (16, 3, .inr (4, 29, 171, 202, 2047, 0)), (19, 3, .inl (.iinc 2 1)),
  (22, 3, .inl (.goto (-20))), (25, 1, .inl .return_)]
set_option maxRecDepth 100000 in
theorem okX3_addText : ckM (mt mX3_addText) kX3_addText = true := by decide +kernel
def kX3_addDecimal : CD := [
  (0, 1, .inl (.iconst 1)), (1, 1, .inl (.istore_n 2)), (2, 1, .inl (.iload_n 2)), (3, 1, .inl (.iload_n 1)), (4, 2, .inl (.bipush 10)), (6, 1, .inl .idiv),
  (7, 3, .inl (.if_icmp .gt 17)), (10, 1, .inl (.iload_n 2)), (11, 2, .inr (6, 33, 0, 0, 2210, 1000000000)), (13, 3, .inl (.if_icmp .ge 11)), (16, 1, .inl (.iload_n 2)), (17, 2, .inl (.bipush 10)),
  (19, 1, .inl .imul), (20, 1, .inl (.istore_n 2)), (21, 3, .inl (.goto (-19))), (24, 1, .inl (.iload_n 2)), (25, 3, .inl (.ifCond .le 24)), (28, 1, .inl (.aload_n 0)),
  (29, 2, .inl (.bipush 48)), (31, 1, .inl (.iload_n 1)), (32, 1, .inl (.iload_n 2)), (33, 1, .inl .idiv), (34, 2, .inl (.bipush 10)), (36, 1, .inl .irem),
  (37, 1, .inl .iadd), (38, 3, .inr (4, 29, 171, 202, 2047, 0)), (41, 1, .inl (.iload_n 2)), (42, 2, .inl (.bipush 10)), (44, 1, .inl .idiv), (45, 1, .inl (.istore_n 2)),
  (46, 3, .inl (.goto (-22))), (49, 1, .inl .return_)]
set_option maxRecDepth 100000 in
theorem okX3_addDecimal : ckM (mt mX3_addDecimal) kX3_addDecimal = true := by decide +kernel
def kX3_cut : CD := [
  (0, 1, .inl (.iload_n 1)), (1, 3, .inl (.ifCond .lt 16)), (4, 1, .inl (.iload_n 1)), (5, 1, .inl (.aload_n 0)), (6, 3, .inr (0, 15, 2, 1, 1033, 0)), (9, 3, .inl (.if_icmp .ge 8)),
  (12, 1, .inl (.aload_n 0)), (13, 1, .inl (.iload_n 1)), (14, 3, .inr (2, 15, 2, 1, 1033, 0)), (17, 1, .inl .return_)]
set_option maxRecDepth 100000 in
theorem okX3_cut : ckM (mt mX3_cut) kX3_cut = true := by decide +kernel
def kX3_dropLast : CD := [
  (0, 1, .inl (.aload_n 0)), (1, 3, .inr (0, 15, 2, 1, 1033, 0)), (4, 3, .inl (.ifCond .le 13)), (7, 1, .inl (.aload_n 0)), (8, 1, .inl .dup), (9, 3, .inr (0, 15, 2, 1, 1033, 0)),
  (12, 1, .inl (.iconst 1)), (13, 1, .inl .isub), (14, 3, .inr (2, 15, 2, 1, 1033, 0)), (17, 1, .inl .return_)]
set_option maxRecDepth 100000 in
theorem okX3_dropLast : ckM (mt mX3_dropLast) kX3_dropLast = true := by decide +kernel
def kX3_clear : CD := [
  (0, 1, .inl (.aload_n 0)), (1, 1, .inl (.iconst 0)), (2, 3, .inr (2, 15, 2, 1, 1033, 0)), (5, 1, .inl .return_)]
set_option maxRecDepth 100000 in
theorem okX3_clear : ckM (mt mX3_clear) kX3_clear = true := by decide +kernel
def kX3_copy : CD := [
  (0, 1, .inl (.aload_n 0)), (1, 1, .inl (.iconst 0)), (2, 3, .inr (2, 15, 2, 1, 1033, 0)), (5, 1, .inl (.iconst 0)), (6, 1, .inl (.istore_n 2)), (7, 1, .inl (.iload_n 2)),
  (8, 1, .inl (.aload_n 1)), (9, 3, .inr (0, 15, 2, 1, 1033, 0)), (12, 3, .inl (.if_icmp .ge 18)), (15, 1, .inl (.aload_n 0)), (16, 1, .inl (.aload_n 1)), (17, 1, .inl (.iload_n 2)),
  (18, 3, .inr (4, 34, 169, 202, 2043, 1)), (21, 3, .inr (4, 29, 171, 202, 2047, 0)), (24, 3, .inl (.iinc 2 1)), (27, 3, .inl (.goto (-20))), (30, 1, .inl .return_)]
set_option maxRecDepth 100000 in
theorem okX3_copy : ckM (mt mX3_copy) kX3_copy = true := by decide +kernel
def kX4_behind : CD := [
  (0, 1, .inl (.aload_n 0)), (1, 3, .inr (0, 36, 3, 5, 1108, 0)), (4, 1, .inl .ireturn)]
set_option maxRecDepth 100000 in
theorem okX4_behind : ckM (mt mX4_behind) kX4_behind = true := by decide +kernel
def kX4_unfolded : CD := [
  (0, 1, .inl (.aload_n 0)), (1, 3, .inr (1, 23, 3, 2, 1105, 0)), (4, 1, .inl .areturn)]
set_option maxRecDepth 100000 in
theorem okX4_unfolded : ckM (mt mX4_unfolded) kX4_unfolded = true := by decide +kernel
def kX4_needsQuotes : CD := [
  (0, 1, .inl (.aload_n 0)), (1, 3, .inr (1, 9, 3, 0, 1103, 0)), (4, 3, .inr (4, 47, 168, 201, 3185, 1)), (7, 1, .inl (.istore_n 1)), (8, 1, .inl (.aload_n 0)), (9, 3, .inr (1, 9, 3, 0, 1103, 0)),
  (12, 1, .inl (.iconst 0)), (13, 3, .inr (4, 51, 17, 9902, 3186, 1)), (16, 1, .inl (.iload_n 1)), (17, 3, .inl (.if_icmp .ne 48)), (20, 1, .inl (.aload_n 0)), (21, 3, .inr (1, 9, 3, 0, 1103, 0)),
  (24, 1, .inl (.iconst 0)), (25, 1, .inl (.iload_n 1)), (26, 2, .inr (7, 55, 38, 0, 3195, 0)), (28, 3, .inr (4, 57, 19, 9904, 3196, 1)), (31, 3, .inl (.ifCond .ne 34)), (34, 1, .inl (.aload_n 0)),
  (35, 3, .inr (1, 9, 3, 0, 1103, 0)), (38, 1, .inl (.iconst 0)), (39, 1, .inl (.iload_n 1)), (40, 2, .inr (7, 61, 39, 0, 3205, 0)), (42, 3, .inr (4, 57, 19, 9904, 3196, 1)), (45, 3, .inl (.ifCond .ne 20)),
  (48, 1, .inl (.aload_n 0)), (49, 3, .inr (1, 29, 3, 3, 1106, 0)), (52, 1, .inl (.aload_n 0)), (53, 3, .inr (1, 9, 3, 0, 1103, 0)), (56, 1, .inl (.iconst 0)), (57, 1, .inl (.iconst 1)),
  (58, 1, .inl (.iconst 1)), (59, 3, .inr (4, 63, 194, 405, 3206, 1)), (62, 3, .inl (.ifCond .eq 7)), (65, 1, .inl (.iconst 1)), (66, 3, .inl (.goto 4)), (69, 1, .inl (.iconst 0)),
  (70, 1, .inr (11, 0, 0, 0, 0, 0))]
set_option maxRecDepth 100000 in
theorem okX4_needsQuotes : ckM (mt mX4_needsQuotes) kX4_needsQuotes = true := by decide +kernel
def kX4_digitsEnd : CD := [
  (0, 1, .inl (.iload_n 1)), (1, 1, .inl (.istore_n 2)), (2, 1, .inl (.iload_n 2)), (3, 1, .inl (.aload_n 0)), (4, 3, .inr (1, 9, 3, 0, 1103, 0)), (7, 3, .inr (4, 47, 168, 201, 3185, 1)),
  (10, 3, .inl (.if_icmp .ge 23)), (13, 1, .inl (.aload_n 0)), (14, 3, .inr (1, 9, 3, 0, 1103, 0)), (17, 1, .inl (.iload_n 2)), (18, 3, .inr (4, 67, 169, 202, 4060, 1)), (21, 3, .inr (4, 71, 13, 9901, 4134, 1)),
  (24, 3, .inl (.ifCond .eq 9)), (27, 3, .inl (.iinc 2 1)), (30, 3, .inl (.goto (-28))), (33, 1, .inl (.iload_n 2)), (34, 1, .inl .ireturn)]
set_option maxRecDepth 100000 in
theorem okX4_digitsEnd : ckM (mt mX4_digitsEnd) kX4_digitsEnd = true := by decide +kernel
def kX4_readNumber : CD := [
  (0, 1, .inl (.aload_n 0)), (1, 1, .inl (.iload_n 1)), (2, 3, .inr (4, 75, 182, 302, 4130, 1)), (5, 1, .inl (.istore_n 3)), (6, 1, .inl (.iload_n 3)), (7, 2, .inl (.istore 4)),
  (9, 1, .inl (.aload_n 0)), (10, 3, .inr (1, 9, 3, 0, 1103, 0)), (13, 1, .inl (.iload_n 3)), (14, 3, .inr (4, 67, 169, 202, 4060, 1)), (17, 2, .inl (.bipush 46)), (19, 3, .inl (.if_icmp .ne 28)),
  (22, 1, .inl (.aload_n 0)), (23, 3, .inr (1, 9, 3, 0, 1103, 0)), (26, 1, .inl (.iload_n 3)), (27, 1, .inl (.iconst 1)), (28, 1, .inl .iadd), (29, 3, .inr (4, 67, 169, 202, 4060, 1)),
  (32, 3, .inr (4, 71, 13, 9901, 4134, 1)), (35, 3, .inl (.ifCond .eq 12)), (38, 1, .inl (.aload_n 0)), (39, 1, .inl (.iload_n 3)), (40, 1, .inl (.iconst 1)), (41, 1, .inl .iadd),
  (42, 3, .inr (4, 75, 182, 302, 4130, 1)), (45, 2, .inl (.istore 4)), (47, 2, .inl (.iload 4)), (49, 1, .inl (.iload_n 1)), (50, 3, .inl (.if_icmp .le 25)), (53, 1, .inl (.aload_n 0)),
  (54, 1, .inl (.iload_n 1)), (55, 1, .inl (.iload_n 3)), (56, 2, .inl (.iload 4)), (58, 1, .inl (.aload_n 0)), (59, 2, .inl (.iload 4)), (61, 3, .inr (4, 78, 184, 302, 4135, 1)),
  (64, 1, .inl (.iload_n 2)), (65, 3, .inr (4, 81, 185, 306, 4140, 1)), (68, 3, .inl (.ifCond .eq 7)), (71, 1, .inl (.iconst 1)), (72, 3, .inl (.goto 4)), (75, 1, .inl (.iconst 0)),
  (76, 1, .inr (11, 0, 0, 0, 0, 0))]
set_option maxRecDepth 100000 in
theorem okX4_readNumber : ckM (mt mX4_readNumber) kX4_readNumber = true := by decide +kernel
def kX4_readExponent : CD := [
  (0, 1, .inl (.aload_n 0)), (1, 1, .inl (.iload_n 1)), (2, 3, .inr (2, 36, 3, 5, 1108, 0)), (5, 1, .inl (.aload_n 0)), (6, 3, .inr (1, 9, 3, 0, 1103, 0)), (9, 1, .inl (.iload_n 1)),
  (10, 3, .inr (4, 67, 169, 202, 4060, 1)), (13, 3, .inr (4, 85, 16, 9901, 4139, 1)), (16, 2, .inl (.bipush 69)), (18, 3, .inl (.if_icmp .eq 5)), (21, 1, .inl (.iconst 0)), (22, 1, .inl .ireturn),
  (23, 1, .inl (.aload_n 0)), (24, 3, .inr (1, 9, 3, 0, 1103, 0)), (27, 1, .inl (.iload_n 1)), (28, 1, .inl (.iconst 1)), (29, 1, .inl .iadd), (30, 3, .inr (4, 67, 169, 202, 4060, 1)),
  (33, 1, .inl (.istore_n 2)), (34, 1, .inl (.iload_n 2)), (35, 2, .inl (.bipush 43)), (37, 3, .inl (.if_icmp .eq 9)), (40, 1, .inl (.iload_n 2)), (41, 2, .inl (.bipush 45)),
  (43, 3, .inl (.if_icmp .ne 9)), (46, 1, .inl (.iload_n 1)), (47, 1, .inl (.iconst 2)), (48, 1, .inl .iadd), (49, 3, .inl (.goto 6)), (52, 1, .inl (.iload_n 1)),
  (53, 1, .inl (.iconst 1)), (54, 1, .inl .iadd), (55, 1, .inl (.istore_n 3)), (56, 1, .inl (.iconst 0)), (57, 2, .inl (.istore 4)), (59, 1, .inl (.iload_n 3)),
  (60, 2, .inl (.istore 5)), (62, 2, .inl (.iload 5)), (64, 1, .inl (.iload_n 3)), (65, 1, .inl (.iconst 3)), (66, 1, .inl .iadd), (67, 3, .inl (.if_icmp .ge 52)),
  (70, 1, .inl (.aload_n 0)), (71, 3, .inr (1, 9, 3, 0, 1103, 0)), (74, 2, .inl (.iload 5)), (76, 3, .inr (4, 67, 169, 202, 4060, 1)), (79, 3, .inr (4, 71, 13, 9901, 4134, 1)), (82, 3, .inl (.ifCond .eq 37)),
  (85, 2, .inl (.iload 4)), (87, 2, .inl (.bipush 10)), (89, 1, .inl .imul), (90, 1, .inl (.aload_n 0)), (91, 3, .inr (1, 9, 3, 0, 1103, 0)), (94, 2, .inl (.iload 5)),
  (96, 3, .inr (4, 67, 169, 202, 4060, 1)), (99, 1, .inl .iadd), (100, 2, .inl (.bipush 48)), (102, 1, .inl .isub), (103, 2, .inl (.istore 4)), (105, 1, .inl (.aload_n 0)),
  (106, 2, .inl (.iload 5)), (108, 1, .inl (.iconst 1)), (109, 1, .inl .iadd), (110, 3, .inr (2, 36, 3, 5, 1108, 0)), (113, 3, .inl (.iinc 5 1)), (116, 3, .inl (.goto (-54))),
  (119, 1, .inl (.iload_n 2)), (120, 2, .inl (.bipush 45)), (122, 3, .inl (.if_icmp .ne 9)), (125, 2, .inl (.iload 4)), (127, 1, .inl .ineg), (128, 3, .inl (.goto 5)),
  (131, 2, .inl (.iload 4)), (133, 1, .inl .ireturn)]
set_option maxRecDepth 100000 in
theorem okX4_readExponent : ckM (mt mX4_readExponent) kX4_readExponent = true := by decide +kernel
def kX4_writeNumber : CD := [
  (0, 1, .inl (.iload_n 1)), (1, 2, .inl (.istore 6)), (3, 2, .inl (.iload 6)), (5, 1, .inl (.iload_n 3)), (6, 3, .inl (.if_icmp .ge 37)), (9, 1, .inl (.aload_n 0)),
  (10, 3, .inr (1, 9, 3, 0, 1103, 0)), (13, 2, .inl (.iload 6)), (15, 3, .inr (4, 67, 169, 202, 4060, 1)), (18, 2, .inl (.bipush 48)), (20, 3, .inl (.if_icmp .eq 17)), (23, 1, .inl (.aload_n 0)),
  (24, 3, .inr (1, 9, 3, 0, 1103, 0)), (27, 2, .inl (.iload 6)), (29, 3, .inr (4, 67, 169, 202, 4060, 1)), (32, 2, .inl (.bipush 46)), (34, 3, .inl (.if_icmp .ne 9)), (37, 3, .inl (.iinc 6 1)),
  (40, 3, .inl (.goto (-37))), (43, 1, .inl (.iload_n 3)), (44, 1, .inl (.iconst 1)), (45, 1, .inl .isub), (46, 2, .inl (.istore 7)), (48, 2, .inl (.iload 7)),
  (50, 2, .inl (.iload 6)), (52, 3, .inl (.if_icmp .le 37)), (55, 1, .inl (.aload_n 0)), (56, 3, .inr (1, 9, 3, 0, 1103, 0)), (59, 2, .inl (.iload 7)), (61, 3, .inr (4, 67, 169, 202, 4060, 1)),
  (64, 2, .inl (.bipush 48)), (66, 3, .inl (.if_icmp .eq 17)), (69, 1, .inl (.aload_n 0)), (70, 3, .inr (1, 9, 3, 0, 1103, 0)), (73, 2, .inl (.iload 7)), (75, 3, .inr (4, 67, 169, 202, 4060, 1)),
  (78, 2, .inl (.bipush 46)), (80, 3, .inl (.if_icmp .ne 9)), (83, 3, .inl (.iinc 7 (-1))), (86, 3, .inl (.goto (-38))), (89, 2, .inl (.iload 6)), (91, 1, .inl (.iload_n 3)),
  (92, 3, .inl (.if_icmp .ne 7)), (95, 1, .inl (.iconst 1)), (96, 3, .inl (.goto 4)), (99, 1, .inl (.iconst 0)), (100, 2, .inl (.istore 8)), (102, 2, .inl (.iload 6)),
  (104, 1, .inl (.iload_n 2)), (105, 3, .inr (4, 88, 186, 9902, 4144, 1)), (108, 2, .inl (.iload 4)), (110, 1, .inl .iadd), (111, 2, .inl (.istore 9)), (113, 2, .inl (.iload 7)),
  (115, 1, .inl (.iload_n 2)), (116, 3, .inr (4, 88, 186, 9902, 4144, 1)), (119, 2, .inl (.iload 4)), (121, 1, .inl .iadd), (122, 2, .inl (.istore 10)), (124, 2, .inl (.iload 8)),
  (126, 3, .inl (.ifCond .ne 31)), (129, 2, .inl (.iload 9)), (131, 2, .inl (.iload 10)), (133, 1, .inl .isub), (134, 2, .inl (.bipush 15)), (136, 3, .inl (.if_icmp .ge 19)),
  (139, 2, .inl (.iload 9)), (141, 3, .inl (.sipush (-999))), (144, 3, .inl (.if_icmp .lt 11)), (147, 2, .inl (.iload 9)), (149, 3, .inl (.sipush 999)), (152, 3, .inl (.if_icmp .le 5)),
  (155, 1, .inl (.iconst 0)), (156, 1, .inr (11, 0, 0, 0, 0, 0)), (157, 1, .inl (.lconst 0)), (158, 2, .inl (.lstore 11)), (160, 2, .inl (.iload 6)), (162, 2, .inl (.istore 13)),
  (164, 2, .inl (.iload 13)), (166, 2, .inl (.iload 7)), (168, 3, .inl (.if_icmp .gt 38)), (171, 2, .inl (.iload 13)), (173, 1, .inl (.iload_n 2)), (174, 3, .inl (.if_icmp .eq 26)),
  (177, 2, .inl (.lload 11)), (179, 3, .inr (5, 92, 0, 0, 4147, 10)), (182, 1, .inl .lmul), (183, 1, .inl (.aload_n 0)), (184, 3, .inr (1, 9, 3, 0, 1103, 0)), (187, 2, .inl (.iload 13)),
  (189, 3, .inr (4, 67, 169, 202, 4060, 1)), (192, 1, .inl .i2l), (193, 1, .inl .ladd), (194, 3, .inr (5, 94, 0, 0, 4148, 48)), (197, 1, .inl .lsub), (198, 2, .inl (.lstore 11)),
  (200, 3, .inl (.iinc 13 1)), (203, 3, .inl (.goto (-39))), (206, 1, .inl (.aload_n 0)), (207, 3, .inr (1, 15, 3, 1, 1104, 0)), (210, 1, .inl (.iconst 0)), (211, 2, .inl (.iload 5)),
  (213, 3, .inr (4, 96, 23, 9902, 4063, 1)), (216, 3, .inr (4, 99, 171, 202, 4062, 0)), (219, 1, .inl (.aload_n 0)), (220, 3, .inr (1, 15, 3, 1, 1104, 0)), (223, 2, .inl (.lload 11)), (225, 2, .inl (.bipush 30)),
  (227, 1, .inl .lshr), (228, 1, .inl .l2i), (229, 3, .inr (4, 99, 171, 202, 4062, 0)), (232, 1, .inl (.aload_n 0)), (233, 3, .inr (1, 15, 3, 1, 1104, 0)), (236, 2, .inl (.lload 11)),
  (238, 3, .inr (5, 102, 0, 0, 4149, 1073741823)), (241, 1, .inl .land), (242, 1, .inl .l2i), (243, 3, .inr (4, 99, 171, 202, 4062, 0)), (246, 1, .inl (.aload_n 0)), (247, 3, .inr (1, 15, 3, 1, 1104, 0)),
  (250, 2, .inl (.iload 8)), (252, 3, .inl (.ifCond .eq 7)), (255, 1, .inl (.iconst 0)), (256, 3, .inl (.goto 5)), (259, 2, .inl (.iload 10)), (261, 3, .inr (4, 99, 171, 202, 4062, 0)),
  (264, 1, .inl (.iconst 1)), (265, 1, .inr (11, 0, 0, 0, 0, 0))]
set_option maxRecDepth 100000 in
theorem okX4_writeNumber : ckM (mt mX4_writeNumber) kX4_writeNumber = true := by decide +kernel
def kX4_powerAt : CD := [
  (0, 1, .inl (.iload_n 0)), (1, 1, .inl (.iload_n 1)), (2, 3, .inl (.if_icmp .ge 11)), (5, 1, .inl (.iload_n 1)), (6, 1, .inl (.iconst 1)), (7, 1, .inl .isub),
  (8, 1, .inl (.iload_n 0)), (9, 1, .inl .isub), (10, 3, .inl (.goto 6)), (13, 1, .inl (.iload_n 1)), (14, 1, .inl (.iload_n 0)), (15, 1, .inl .isub),
  (16, 1, .inl .ireturn)]
set_option maxRecDepth 100000 in
theorem okX4_powerAt : ckM (mt mX4_powerAt) kX4_powerAt = true := by decide +kernel
def kX4_readQuoted : CD := [
  (0, 1, .inl (.aload_n 0)), (1, 3, .inr (1, 9, 3, 0, 1103, 0)), (4, 1, .inl (.iload_n 1)), (5, 3, .inr (4, 67, 169, 202, 4060, 1)), (8, 1, .inl (.istore_n 2)), (9, 1, .inl (.aload_n 0)),
  (10, 3, .inr (1, 23, 3, 2, 1105, 0)), (13, 3, .inr (4, 104, 177, 201, 4061, 0)), (16, 1, .inl (.iconst 0)), (17, 1, .inl (.istore_n 3)), (18, 1, .inl (.iload_n 1)), (19, 1, .inl (.iconst 1)),
  (20, 1, .inl .iadd), (21, 2, .inl (.istore 4)), (23, 2, .inl (.iload 4)), (25, 1, .inl (.aload_n 0)), (26, 3, .inr (1, 9, 3, 0, 1103, 0)), (29, 3, .inr (4, 47, 168, 201, 3185, 1)),
  (32, 3, .inl (.if_icmp .ge 89)), (35, 1, .inl (.aload_n 0)), (36, 3, .inr (1, 9, 3, 0, 1103, 0)), (39, 2, .inl (.iload 4)), (41, 3, .inr (4, 67, 169, 202, 4060, 1)), (44, 2, .inl (.istore 5)),
  (46, 2, .inl (.iload 5)), (48, 1, .inl (.iload_n 2)), (49, 3, .inl (.if_icmp .ne 38)), (52, 3, .inl (.iinc 4 1)), (55, 1, .inl (.aload_n 0)), (56, 3, .inr (1, 9, 3, 0, 1103, 0)),
  (59, 2, .inl (.iload 4)), (61, 3, .inr (4, 67, 169, 202, 4060, 1)), (64, 1, .inl (.iload_n 2)), (65, 3, .inl (.if_icmp .eq 22)), (68, 1, .inl (.aload_n 0)), (69, 2, .inl (.iload 4)),
  (71, 3, .inr (2, 36, 3, 5, 1108, 0)), (74, 1, .inl (.iload_n 3)), (75, 3, .inl (.sipush 255)), (78, 3, .inl (.if_icmp .gt 7)), (81, 1, .inl (.iconst 1)), (82, 3, .inl (.goto 4)),
  (85, 1, .inl (.iconst 0)), (86, 1, .inr (11, 0, 0, 0, 0, 0)), (87, 2, .inl (.iload 5)), (89, 2, .inl (.bipush 32)), (91, 3, .inl (.if_icmp .lt 10)), (94, 2, .inl (.iload 5)),
  (96, 2, .inl (.bipush 126)), (98, 3, .inl (.if_icmp .le 5)), (101, 1, .inl (.iconst 0)), (102, 1, .inr (11, 0, 0, 0, 0, 0)), (103, 1, .inl (.aload_n 0)), (104, 3, .inr (1, 23, 3, 2, 1105, 0)),
  (107, 2, .inl (.iload 5)), (109, 3, .inr (4, 99, 171, 202, 4062, 0)), (112, 3, .inl (.iinc 3 1)), (115, 3, .inl (.iinc 4 1)), (118, 3, .inl (.goto (-95))), (121, 1, .inl (.iconst 0)),
  (122, 1, .inr (11, 0, 0, 0, 0, 0))]
set_option maxRecDepth 100000 in
theorem okX4_readQuoted : ckM (mt mX4_readQuoted) kX4_readQuoted = true := by decide +kernel
def kX4_readString : CD := [
  (0, 1, .inl (.aload_n 0)), (1, 1, .inl (.iload_n 1)), (2, 3, .inr (4, 107, 187, 302, 4056, 1)), (5, 3, .inl (.ifCond .ne 5)), (8, 1, .inl (.iconst 0)), (9, 1, .inr (11, 0, 0, 0, 0, 0)),
  (10, 1, .inl (.aload_n 0)), (11, 3, .inr (1, 15, 3, 1, 1104, 0)), (14, 1, .inl (.iconst 1)), (15, 1, .inl (.aload_n 0)), (16, 3, .inr (1, 23, 3, 2, 1105, 0)), (19, 3, .inr (4, 47, 168, 201, 3185, 1)),
  (22, 3, .inr (4, 96, 23, 9902, 4063, 1)), (25, 3, .inr (4, 99, 171, 202, 4062, 0)), (28, 1, .inl (.iconst 0)), (29, 1, .inl (.istore_n 2)), (30, 1, .inl (.iload_n 2)), (31, 1, .inl (.aload_n 0)),
  (32, 3, .inr (1, 23, 3, 2, 1105, 0)), (35, 3, .inr (4, 47, 168, 201, 3185, 1)), (38, 3, .inl (.if_icmp .ge 68)), (41, 1, .inl (.aload_n 0)), (42, 3, .inr (1, 23, 3, 2, 1105, 0)), (45, 1, .inl (.iload_n 2)),
  (46, 3, .inr (4, 67, 169, 202, 4060, 1)), (49, 2, .inl (.bipush 24)), (51, 1, .inl .ishl), (52, 1, .inl (.aload_n 0)), (53, 3, .inr (1, 23, 3, 2, 1105, 0)), (56, 1, .inl (.iload_n 2)),
  (57, 1, .inl (.iconst 1)), (58, 1, .inl .iadd), (59, 3, .inr (4, 67, 169, 202, 4060, 1)), (62, 2, .inl (.bipush 16)), (64, 1, .inl .ishl), (65, 1, .inl .ior),
  (66, 1, .inl (.aload_n 0)), (67, 3, .inr (1, 23, 3, 2, 1105, 0)), (70, 1, .inl (.iload_n 2)), (71, 1, .inl (.iconst 2)), (72, 1, .inl .iadd), (73, 3, .inr (4, 67, 169, 202, 4060, 1)),
  (76, 2, .inl (.bipush 8)), (78, 1, .inl .ishl), (79, 1, .inl .ior), (80, 1, .inl (.istore_n 3)), (81, 1, .inl (.aload_n 0)), (82, 3, .inr (1, 15, 3, 1, 1104, 0)),
  (85, 1, .inl (.iload_n 3)), (86, 1, .inl (.aload_n 0)), (87, 3, .inr (1, 23, 3, 2, 1105, 0)), (90, 1, .inl (.iload_n 2)), (91, 1, .inl (.iconst 3)), (92, 1, .inl .iadd),
  (93, 3, .inr (4, 67, 169, 202, 4060, 1)), (96, 1, .inl .ior), (97, 3, .inr (4, 99, 171, 202, 4062, 0)), (100, 3, .inl (.iinc 2 4)), (103, 3, .inl (.goto (-73))), (106, 1, .inl (.iconst 1)),
  (107, 1, .inr (11, 0, 0, 0, 0, 0))]
set_option maxRecDepth 100000 in
theorem okX4_readString : ckM (mt mX4_readString) kX4_readString = true := by decide +kernel
def kX4_readError : CD := [
  (0, 1, .inl (.iconst 1)), (1, 1, .inl (.istore_n 2)), (2, 1, .inl (.iload_n 2)), (3, 2, .inl (.bipush 7)), (5, 3, .inl (.if_icmp .gt 51)), (8, 1, .inl (.aload_n 0)),
  (9, 3, .inr (1, 9, 3, 0, 1103, 0)), (12, 1, .inl (.iload_n 1)), (13, 1, .inl (.iload_n 2)), (14, 3, .inr (4, 110, 21, 9901, 4076, 3)), (17, 3, .inr (4, 114, 18, 9903, 4077, 1)), (20, 3, .inl (.ifCond .eq 30)),
  (23, 1, .inl (.aload_n 0)), (24, 3, .inr (1, 15, 3, 1, 1104, 0)), (27, 1, .inl (.iconst 3)), (28, 1, .inl (.iload_n 2)), (29, 3, .inr (4, 96, 23, 9902, 4063, 1)), (32, 3, .inr (4, 99, 171, 202, 4062, 0)),
  (35, 1, .inl (.aload_n 0)), (36, 1, .inl (.iload_n 1)), (37, 1, .inl (.iload_n 2)), (38, 3, .inr (4, 110, 21, 9901, 4076, 3)), (41, 3, .inr (4, 118, 203, 801, 4078, 1)), (44, 1, .inl .iadd),
  (45, 3, .inr (2, 36, 3, 5, 1108, 0)), (48, 1, .inl (.iconst 1)), (49, 1, .inr (11, 0, 0, 0, 0, 0)), (50, 3, .inl (.iinc 2 1)), (53, 3, .inl (.goto (-51))), (56, 1, .inl (.iconst 0)),
  (57, 1, .inr (11, 0, 0, 0, 0, 0))]
set_option maxRecDepth 100000 in
theorem okX4_readError : ckM (mt mX4_readError) kX4_readError = true := by decide +kernel
def kX4_readLogical : CD := [
  (0, 1, .inl (.aload_n 0)), (1, 3, .inr (1, 9, 3, 0, 1103, 0)), (4, 1, .inl (.iload_n 1)), (5, 1, .inl (.iload_n 2)), (6, 2, .inr (7, 55, 38, 0, 3195, 0)), (8, 3, .inr (4, 57, 19, 9904, 3196, 1)),
  (11, 1, .inl (.istore_n 3)), (12, 1, .inl (.iload_n 3)), (13, 3, .inl (.ifCond .ne 19)), (16, 1, .inl (.aload_n 0)), (17, 3, .inr (1, 9, 3, 0, 1103, 0)), (20, 1, .inl (.iload_n 1)),
  (21, 1, .inl (.iload_n 2)), (22, 2, .inr (7, 61, 39, 0, 3205, 0)), (24, 3, .inr (4, 57, 19, 9904, 3196, 1)), (27, 3, .inl (.ifCond .ne 5)), (30, 1, .inl (.iconst 0)), (31, 1, .inr (11, 0, 0, 0, 0, 0)),
  (32, 1, .inl (.aload_n 0)), (33, 3, .inr (1, 15, 3, 1, 1104, 0)), (36, 1, .inl (.iconst 2)), (37, 1, .inl (.iload_n 3)), (38, 3, .inl (.ifCond .eq 7)), (41, 1, .inl (.iconst 1)),
  (42, 3, .inl (.goto 4)), (45, 1, .inl (.iconst 0)), (46, 3, .inr (4, 96, 23, 9902, 4063, 1)), (49, 3, .inr (4, 99, 171, 202, 4062, 0)), (52, 1, .inl (.aload_n 0)), (53, 1, .inl (.iload_n 2)),
  (54, 3, .inr (2, 36, 3, 5, 1108, 0)), (57, 1, .inl (.iconst 1)), (58, 1, .inr (11, 0, 0, 0, 0, 0))]
set_option maxRecDepth 100000 in
theorem okX4_readLogical : ckM (mt mX4_readLogical) kX4_readLogical = true := by decide +kernel
def kX4_findReference : CD := [
  (0, 1, .inl (.iconst 0)), (1, 1, .inl (.istore_n 2)), (2, 1, .inl (.iload_n 2)), (3, 2, .inl (.bipush 32)), (5, 3, .inl (.if_icmp .gt 146)), (8, 1, .inl (.iload_n 2)),
  (9, 2, .inl (.bipush 32)), (11, 3, .inl (.if_icmp .eq 7)), (14, 1, .inl (.iconst 1)), (15, 3, .inl (.goto 4)), (18, 1, .inl (.iconst 0)), (19, 1, .inl (.istore_n 3)),
  (20, 1, .inl (.iload_n 2)), (21, 2, .inl (.bipush 16)), (23, 3, .inl (.if_icmp .eq 7)), (26, 1, .inl (.iconst 1)), (27, 3, .inl (.goto 4)), (30, 1, .inl (.iconst 0)),
  (31, 2, .inl (.istore 4)), (33, 1, .inl (.aload_n 0)), (34, 3, .inr (1, 29, 3, 3, 1106, 0)), (37, 1, .inl (.aload_n 0)), (38, 3, .inr (1, 9, 3, 0, 1103, 0)), (41, 1, .inl (.iload_n 1)),
  (42, 1, .inl (.iload_n 3)), (43, 2, .inl (.iload 4)), (45, 3, .inr (4, 63, 194, 405, 3206, 1)), (48, 3, .inl (.ifCond .eq 97)), (51, 1, .inl (.aload_n 0)), (52, 3, .inr (1, 29, 3, 3, 1106, 0)),
  (55, 3, .inr (0, 123, 4, 4, 1091, 0)), (58, 2, .inl (.istore 5)), (60, 1, .inl (.aload_n 0)), (61, 1, .inl (.aload_n 0)), (62, 3, .inr (1, 9, 3, 0, 1103, 0)), (65, 2, .inl (.iload 5)),
  (67, 3, .inr (4, 67, 169, 202, 4060, 1)), (70, 2, .inl (.bipush 58)), (72, 3, .inl (.if_icmp .ne 28)), (75, 1, .inl (.aload_n 0)), (76, 3, .inr (1, 33, 3, 4, 1107, 0)), (79, 1, .inl (.aload_n 0)),
  (80, 3, .inr (1, 9, 3, 0, 1103, 0)), (83, 2, .inl (.iload 5)), (85, 1, .inl (.iconst 1)), (86, 1, .inl .iadd), (87, 1, .inl (.iload_n 3)), (88, 2, .inl (.iload 4)),
  (90, 3, .inr (4, 63, 194, 405, 3206, 1)), (93, 3, .inl (.ifCond .eq 7)), (96, 1, .inl (.iconst 1)), (97, 3, .inl (.goto 4)), (100, 1, .inl (.iconst 0)), (101, 3, .inr (3, 43, 3, 7, 1110, 0)),
  (104, 1, .inl (.aload_n 0)), (105, 3, .inr (0, 43, 3, 7, 1110, 0)), (108, 3, .inl (.ifCond .ne 7)), (111, 1, .inl (.iload_n 2)), (112, 3, .inl (.ifCond .ne 33)), (115, 1, .inl (.aload_n 0)),
  (116, 1, .inl (.iload_n 2)), (117, 3, .inr (2, 40, 3, 6, 1109, 0)), (120, 1, .inl (.aload_n 0)), (121, 1, .inl (.aload_n 0)), (122, 3, .inr (0, 43, 3, 7, 1110, 0)), (125, 3, .inl (.ifCond .eq 13)),
  (128, 1, .inl (.aload_n 0)), (129, 3, .inr (1, 33, 3, 4, 1107, 0)), (132, 3, .inr (0, 123, 4, 4, 1091, 0)), (135, 3, .inl (.goto 5)), (138, 2, .inl (.iload 5)), (140, 3, .inr (2, 36, 3, 5, 1108, 0)),
  (143, 1, .inl (.iconst 1)), (144, 1, .inr (11, 0, 0, 0, 0, 0)), (145, 3, .inl (.iinc 2 16)), (148, 3, .inl (.goto (-146))), (151, 1, .inl (.iconst 0)), (152, 1, .inr (11, 0, 0, 0, 0, 0))]
set_option maxRecDepth 100000 in
theorem okX4_findReference : ckM (mt mX4_findReference) kX4_findReference = true := by decide +kernel
def kX4_writeReference : CD := [
  (0, 1, .inl (.aload_n 0)), (1, 3, .inr (0, 43, 3, 7, 1110, 0)), (4, 3, .inl (.ifCond .eq 9)), (7, 1, .inl (.aload_n 0)), (8, 1, .inl (.iload_n 1)), (9, 3, .inr (4, 124, 193, 302, 4101, 0)),
  (12, 1, .inl .return_), (13, 1, .inl (.aload_n 0)), (14, 3, .inr (1, 15, 3, 1, 1104, 0)), (17, 1, .inl (.iconst 4)), (18, 1, .inl (.aload_n 0)), (19, 3, .inr (1, 29, 3, 3, 1106, 0)),
  (22, 3, .inr (0, 127, 4, 2, 1087, 0)), (25, 1, .inl (.iconst 2)), (26, 1, .inl (.aload_n 0)), (27, 3, .inr (1, 29, 3, 3, 1106, 0)), (30, 3, .inr (0, 130, 4, 3, 1089, 0)), (33, 1, .inl .imul),
  (34, 1, .inl .iadd), (35, 3, .inr (4, 96, 23, 9902, 4063, 1)), (38, 3, .inr (4, 99, 171, 202, 4062, 0)), (41, 1, .inl (.aload_n 0)), (42, 3, .inr (1, 15, 3, 1, 1104, 0)), (45, 1, .inl (.iload_n 1)),
  (46, 3, .inr (4, 99, 171, 202, 4062, 0)), (49, 1, .inl (.aload_n 0)), (50, 3, .inr (1, 15, 3, 1, 1104, 0)), (53, 1, .inl (.aload_n 0)), (54, 3, .inr (1, 29, 3, 3, 1106, 0)), (57, 3, .inr (0, 133, 4, 1, 1085, 0)),
  (60, 3, .inr (4, 99, 171, 202, 4062, 0)), (63, 1, .inl (.aload_n 0)), (64, 3, .inr (1, 15, 3, 1, 1104, 0)), (67, 1, .inl (.aload_n 0)), (68, 3, .inr (1, 29, 3, 3, 1106, 0)), (71, 3, .inr (0, 136, 4, 0, 1083, 0)),
  (74, 3, .inr (4, 99, 171, 202, 4062, 0)), (77, 1, .inl .return_)]
set_option maxRecDepth 100000 in
theorem okX4_writeReference : ckM (mt mX4_writeReference) kX4_writeReference = true := by decide +kernel
def kX4_writeRange : CD := [
  (0, 1, .inl (.aload_n 0)), (1, 3, .inr (0, 40, 3, 6, 1109, 0)), (4, 2, .inl (.bipush 16)), (6, 3, .inl (.if_icmp .ne 20)), (9, 1, .inl (.aload_n 0)), (10, 3, .inr (1, 29, 3, 3, 1106, 0)),
  (13, 1, .inl (.iconst 1)), (14, 3, .inr (2, 133, 4, 1, 1085, 0)), (17, 1, .inl (.aload_n 0)), (18, 3, .inr (1, 33, 3, 4, 1107, 0)), (21, 2, .inr (6, 139, 0, 0, 4105, 1048576)), (23, 3, .inr (2, 133, 4, 1, 1085, 0)),
  (26, 1, .inl (.aload_n 0)), (27, 3, .inr (0, 40, 3, 6, 1109, 0)), (30, 2, .inl (.bipush 32)), (32, 3, .inl (.if_icmp .ne 21)), (35, 1, .inl (.aload_n 0)), (36, 3, .inr (1, 29, 3, 3, 1106, 0)),
  (39, 1, .inl (.iconst 1)), (40, 3, .inr (2, 136, 4, 0, 1083, 0)), (43, 1, .inl (.aload_n 0)), (44, 3, .inr (1, 33, 3, 4, 1107, 0)), (47, 3, .inl (.sipush 16384)), (50, 3, .inr (2, 136, 4, 0, 1083, 0)),
  (53, 1, .inl (.aload_n 0)), (54, 3, .inr (1, 33, 3, 4, 1107, 0)), (57, 3, .inr (0, 136, 4, 0, 1083, 0)), (60, 1, .inl (.aload_n 0)), (61, 3, .inr (1, 29, 3, 3, 1106, 0)), (64, 3, .inr (0, 136, 4, 0, 1083, 0)),
  (67, 3, .inl (.if_icmp .ge 7)), (70, 1, .inl (.iconst 1)), (71, 3, .inl (.goto 4)), (74, 1, .inl (.iconst 0)), (75, 1, .inl (.istore_n 2)), (76, 1, .inl (.aload_n 0)),
  (77, 3, .inr (1, 33, 3, 4, 1107, 0)), (80, 3, .inr (0, 133, 4, 1, 1085, 0)), (83, 1, .inl (.aload_n 0)), (84, 3, .inr (1, 29, 3, 3, 1106, 0)), (87, 3, .inr (0, 133, 4, 1, 1085, 0)), (90, 3, .inl (.if_icmp .ge 7)),
  (93, 1, .inl (.iconst 1)), (94, 3, .inl (.goto 4)), (97, 1, .inl (.iconst 0)), (98, 1, .inl (.istore_n 3)), (99, 1, .inl (.iload_n 2)), (100, 3, .inl (.ifCond .eq 10)),
  (103, 1, .inl (.aload_n 0)), (104, 3, .inr (1, 33, 3, 4, 1107, 0)), (107, 3, .inl (.goto 7)), (110, 1, .inl (.aload_n 0)), (111, 3, .inr (1, 29, 3, 3, 1106, 0)), (114, 2, .inl (.astore 4)),
  (116, 1, .inl (.iload_n 2)), (117, 3, .inl (.ifCond .eq 10)), (120, 1, .inl (.aload_n 0)), (121, 3, .inr (1, 29, 3, 3, 1106, 0)), (124, 3, .inl (.goto 7)), (127, 1, .inl (.aload_n 0)),
  (128, 3, .inr (1, 33, 3, 4, 1107, 0)), (131, 2, .inl (.astore 5)), (133, 1, .inl (.iload_n 3)), (134, 3, .inl (.ifCond .eq 10)), (137, 1, .inl (.aload_n 0)), (138, 3, .inr (1, 33, 3, 4, 1107, 0)),
  (141, 3, .inl (.goto 7)), (144, 1, .inl (.aload_n 0)), (145, 3, .inr (1, 29, 3, 3, 1106, 0)), (148, 2, .inl (.astore 6)), (150, 1, .inl (.iload_n 3)), (151, 3, .inl (.ifCond .eq 10)),
  (154, 1, .inl (.aload_n 0)), (155, 3, .inr (1, 29, 3, 3, 1106, 0)), (158, 3, .inl (.goto 7)), (161, 1, .inl (.aload_n 0)), (162, 3, .inr (1, 33, 3, 4, 1107, 0)), (165, 2, .inl (.astore 7)),
  (167, 2, .inl (.aload 4)), (169, 3, .inr (0, 127, 4, 2, 1087, 0)), (172, 1, .inl (.iconst 2)), (173, 2, .inl (.aload 6)), (175, 3, .inr (0, 130, 4, 3, 1089, 0)), (178, 1, .inl .imul),
  (179, 1, .inl .iadd), (180, 1, .inl (.iconst 4)), (181, 2, .inl (.aload 5)), (183, 3, .inr (0, 127, 4, 2, 1087, 0)), (186, 1, .inl .imul), (187, 1, .inl .iadd),
  (188, 2, .inl (.bipush 8)), (190, 2, .inl (.aload 7)), (192, 3, .inr (0, 130, 4, 3, 1089, 0)), (195, 1, .inl .imul), (196, 1, .inl .iadd), (197, 2, .inl (.istore 8)),
  (199, 1, .inl (.aload_n 0)), (200, 3, .inr (1, 15, 3, 1, 1104, 0)), (203, 1, .inl (.iconst 5)), (204, 1, .inl (.aload_n 0)), (205, 3, .inr (0, 40, 3, 6, 1109, 0)), (208, 2, .inl (.iload 8)),
  (210, 1, .inl .iadd), (211, 3, .inr (4, 96, 23, 9902, 4063, 1)), (214, 3, .inr (4, 99, 171, 202, 4062, 0)), (217, 1, .inl (.aload_n 0)), (218, 3, .inr (1, 15, 3, 1, 1104, 0)), (221, 1, .inl (.iload_n 1)),
  (222, 3, .inr (4, 99, 171, 202, 4062, 0)), (225, 1, .inl (.aload_n 0)), (226, 3, .inr (1, 15, 3, 1, 1104, 0)), (229, 2, .inl (.aload 6)), (231, 3, .inr (0, 133, 4, 1, 1085, 0)), (234, 3, .inr (4, 99, 171, 202, 4062, 0)),
  (237, 1, .inl (.aload_n 0)), (238, 3, .inr (1, 15, 3, 1, 1104, 0)), (241, 2, .inl (.aload 4)), (243, 3, .inr (0, 136, 4, 0, 1083, 0)), (246, 3, .inr (4, 99, 171, 202, 4062, 0)), (249, 1, .inl (.aload_n 0)),
  (250, 3, .inr (1, 15, 3, 1, 1104, 0)), (253, 2, .inl (.aload 7)), (255, 3, .inr (0, 133, 4, 1, 1085, 0)), (258, 3, .inr (4, 99, 171, 202, 4062, 0)), (261, 1, .inl (.aload_n 0)), (262, 3, .inr (1, 15, 3, 1, 1104, 0)),
  (265, 2, .inl (.aload 5)), (267, 3, .inr (0, 136, 4, 0, 1083, 0)), (270, 3, .inr (4, 99, 171, 202, 4062, 0)), (273, 1, .inl .return_)]
set_option maxRecDepth 100000 in
theorem okX4_writeRange : ckM (mt mX4_writeRange) kX4_writeRange = true := by decide +kernel
def kX5_isAt : CD := [
  (0, 1, .inl (.aload_n 0)), (1, 1, .inl (.iload_n 2)), (2, 3, .inr (2, 9, 4, 4, 1090, 0)), (5, 1, .inl (.aload_n 0)), (6, 1, .inl (.iconst 0)), (7, 3, .inr (2, 15, 4, 0, 1082, 0)),
  (10, 1, .inl (.aload_n 0)), (11, 1, .inl (.iconst 0)), (12, 3, .inr (2, 18, 4, 1, 1084, 0)), (15, 1, .inl (.aload_n 0)), (16, 1, .inl (.iload_n 3)), (17, 3, .inl (.ifCond .eq 20)),
  (20, 1, .inl (.aload_n 1)), (21, 1, .inl (.aload_n 0)), (22, 3, .inr (0, 9, 4, 4, 1090, 0)), (25, 3, .inr (4, 21, 169, 202, 3210, 1)), (28, 2, .inl (.bipush 36)), (30, 3, .inl (.if_icmp .ne 7)),
  (33, 1, .inl (.iconst 1)), (34, 3, .inl (.goto 4)), (37, 1, .inl (.iconst 0)), (38, 3, .inr (2, 27, 4, 2, 1086, 0)), (41, 1, .inl (.aload_n 0)), (42, 1, .inl .dup),
  (43, 3, .inr (0, 9, 4, 4, 1090, 0)), (46, 1, .inl (.aload_n 0)), (47, 3, .inr (0, 27, 4, 2, 1086, 0)), (50, 1, .inl .iadd), (51, 3, .inr (2, 9, 4, 4, 1090, 0)), (54, 1, .inl (.iconst 0)),
  (55, 2, .inl (.istore 5)), (57, 1, .inl (.iload_n 3)), (58, 3, .inl (.ifCond .eq 67)), (61, 2, .inl (.iload 5)), (63, 1, .inl (.iconst 3)), (64, 3, .inl (.if_icmp .ge 61)),
  (67, 1, .inl (.aload_n 1)), (68, 1, .inl (.aload_n 0)), (69, 3, .inr (0, 9, 4, 4, 1090, 0)), (72, 3, .inr (4, 21, 169, 202, 3210, 1)), (75, 3, .inr (4, 30, 14, 9901, 3211, 1)), (78, 3, .inl (.ifCond .eq 47)),
  (81, 1, .inl (.aload_n 0)), (82, 1, .inl (.aload_n 0)), (83, 3, .inr (0, 15, 4, 0, 1082, 0)), (86, 2, .inl (.bipush 26)), (88, 1, .inl .imul), (89, 1, .inl (.aload_n 1)),
  (90, 1, .inl (.aload_n 0)), (91, 3, .inr (0, 9, 4, 4, 1090, 0)), (94, 3, .inr (4, 21, 169, 202, 3210, 1)), (97, 3, .inr (4, 34, 16, 9901, 3212, 1)), (100, 1, .inl .iadd), (101, 2, .inl (.bipush 65)),
  (103, 1, .inl .isub), (104, 1, .inl (.iconst 1)), (105, 1, .inl .iadd), (106, 3, .inr (2, 15, 4, 0, 1082, 0)), (109, 1, .inl (.aload_n 0)), (110, 1, .inl .dup),
  (111, 3, .inr (0, 9, 4, 4, 1090, 0)), (114, 1, .inl (.iconst 1)), (115, 1, .inl .iadd), (116, 3, .inr (2, 9, 4, 4, 1090, 0)), (119, 3, .inl (.iinc 5 1)), (122, 3, .inl (.goto (-65))),
  (125, 1, .inl (.aload_n 0)), (126, 2, .inl (.iload 4)), (128, 3, .inl (.ifCond .eq 20)), (131, 1, .inl (.aload_n 1)), (132, 1, .inl (.aload_n 0)), (133, 3, .inr (0, 9, 4, 4, 1090, 0)),
  (136, 3, .inr (4, 21, 169, 202, 3210, 1)), (139, 2, .inl (.bipush 36)), (141, 3, .inl (.if_icmp .ne 7)), (144, 1, .inl (.iconst 1)), (145, 3, .inl (.goto 4)), (148, 1, .inl (.iconst 0)),
  (149, 3, .inr (2, 37, 4, 3, 1088, 0)), (152, 1, .inl (.aload_n 0)), (153, 1, .inl .dup), (154, 3, .inr (0, 9, 4, 4, 1090, 0)), (157, 1, .inl (.aload_n 0)), (158, 3, .inr (0, 37, 4, 3, 1088, 0)),
  (161, 1, .inl .iadd), (162, 3, .inr (2, 9, 4, 4, 1090, 0)), (165, 1, .inl (.aload_n 1)), (166, 1, .inl (.aload_n 0)), (167, 3, .inr (0, 9, 4, 4, 1090, 0)), (170, 3, .inr (4, 21, 169, 202, 3210, 1)),
  (173, 2, .inl (.bipush 48)), (175, 3, .inl (.if_icmp .eq 7)), (178, 1, .inl (.iconst 1)), (179, 3, .inl (.goto 4)), (182, 1, .inl (.iconst 0)), (183, 2, .inl (.istore 5)),
  (185, 1, .inl (.iconst 0)), (186, 2, .inl (.istore 6)), (188, 2, .inl (.iload 4)), (190, 3, .inl (.ifCond .eq 63)), (193, 2, .inl (.iload 6)), (195, 2, .inl (.bipush 7)),
  (197, 3, .inl (.if_icmp .ge 56)), (200, 1, .inl (.aload_n 1)), (201, 1, .inl (.aload_n 0)), (202, 3, .inr (0, 9, 4, 4, 1090, 0)), (205, 3, .inr (4, 21, 169, 202, 3210, 1)), (208, 3, .inr (4, 40, 13, 9901, 3213, 1)),
  (211, 3, .inl (.ifCond .eq 42)), (214, 1, .inl (.aload_n 0)), (215, 1, .inl (.aload_n 0)), (216, 3, .inr (0, 18, 4, 1, 1084, 0)), (219, 2, .inl (.bipush 10)), (221, 1, .inl .imul),
  (222, 1, .inl (.aload_n 1)), (223, 1, .inl (.aload_n 0)), (224, 3, .inr (0, 9, 4, 4, 1090, 0)), (227, 3, .inr (4, 21, 169, 202, 3210, 1)), (230, 1, .inl .iadd), (231, 2, .inl (.bipush 48)),
  (233, 1, .inl .isub), (234, 3, .inr (2, 18, 4, 1, 1084, 0)), (237, 1, .inl (.aload_n 0)), (238, 1, .inl .dup), (239, 3, .inr (0, 9, 4, 4, 1090, 0)), (242, 1, .inl (.iconst 1)),
  (243, 1, .inl .iadd), (244, 3, .inr (2, 9, 4, 4, 1090, 0)), (247, 3, .inl (.iinc 6 1)), (250, 3, .inl (.goto (-62))), (253, 1, .inl (.aload_n 1)), (254, 1, .inl (.aload_n 0)),
  (255, 3, .inr (0, 9, 4, 4, 1090, 0)), (258, 3, .inr (4, 21, 169, 202, 3210, 1)), (261, 2, .inl (.istore 6)), (263, 1, .inl (.iload_n 3)), (264, 3, .inl (.ifCond .eq 21)), (267, 1, .inl (.aload_n 0)),
  (268, 3, .inr (0, 15, 4, 0, 1082, 0)), (271, 1, .inl (.iconst 1)), (272, 3, .inl (.if_icmp .lt 66)), (275, 1, .inl (.aload_n 0)), (276, 3, .inr (0, 15, 4, 0, 1082, 0)), (279, 3, .inl (.sipush 16384)),
  (282, 3, .inl (.if_icmp .gt 56)), (285, 2, .inl (.iload 4)), (287, 3, .inl (.ifCond .eq 25)), (290, 2, .inl (.iload 5)), (292, 3, .inl (.ifCond .eq 46)), (295, 1, .inl (.aload_n 0)),
  (296, 3, .inr (0, 18, 4, 1, 1084, 0)), (299, 1, .inl (.iconst 1)), (300, 3, .inl (.if_icmp .lt 38)), (303, 1, .inl (.aload_n 0)), (304, 3, .inr (0, 18, 4, 1, 1084, 0)), (307, 2, .inr (6, 43, 0, 0, 3216, 1048576)),
  (309, 3, .inl (.if_icmp .gt 29)), (312, 2, .inl (.iload 6)), (314, 3, .inr (4, 44, 15, 9901, 3217, 1)), (317, 3, .inl (.ifCond .ne 21)), (320, 2, .inl (.iload 6)), (322, 2, .inl (.bipush 40)),
  (324, 3, .inl (.if_icmp .eq 14)), (327, 2, .inl (.iload 6)), (329, 2, .inl (.bipush 33)), (331, 3, .inl (.if_icmp .eq 7)), (334, 1, .inl (.iconst 1)), (335, 3, .inl (.goto 4)),
  (338, 1, .inl (.iconst 0)), (339, 1, .inr (11, 0, 0, 0, 0, 0))]
set_option maxRecDepth 100000 in
theorem okX5_isAt : ckM (mt mX5_isAt) kX5_isAt = true := by decide +kernel
def kX6_count : CD := [
  (0, 1, .inl (.aload_n 0)), (1, 3, .inr (0, 30, 5, 3, 1055, 0)), (4, 1, .inl .ireturn)]
set_option maxRecDepth 100000 in
theorem okX6_count : ckM (mt mX6_count) kX6_count = true := by decide +kernel
def kX6_isOverfull : CD := [
  (0, 1, .inl (.aload_n 0)), (1, 3, .inr (0, 33, 5, 4, 1056, 0)), (4, 1, .inr (11, 0, 0, 0, 0, 0))]
set_option maxRecDepth 100000 in
theorem okX6_isOverfull : ckM (mt mX6_isOverfull) kX6_isOverfull = true := by decide +kernel
def kX6_length : CD := [
  (0, 1, .inl (.iload_n 1)), (1, 3, .inl (.ifCond .lt 33)), (4, 1, .inl (.iload_n 1)), (5, 1, .inl (.aload_n 0)), (6, 3, .inr (0, 30, 5, 3, 1055, 0)), (9, 3, .inl (.if_icmp .ge 25)),
  (12, 1, .inl (.aload_n 0)), (13, 3, .inr (1, 24, 5, 2, 1054, 0)), (16, 1, .inl (.iload_n 1)), (17, 1, .inl (.iconst 1)), (18, 1, .inl .iadd), (19, 3, .inr (4, 37, 169, 202, 2077, 1)),
  (22, 1, .inl (.aload_n 0)), (23, 3, .inr (1, 24, 5, 2, 1054, 0)), (26, 1, .inl (.iload_n 1)), (27, 3, .inr (4, 37, 169, 202, 2077, 1)), (30, 1, .inl .isub), (31, 3, .inl (.goto 4)),
  (34, 1, .inl (.iconst 0)), (35, 1, .inl .ireturn)]
set_option maxRecDepth 100000 in
theorem okX6_length : ckM (mt mX6_length) kX6_length = true := by decide +kernel
def kX6_letter : CD := [
  (0, 1, .inl (.iload_n 1)), (1, 3, .inl (.ifCond .lt 15)), (4, 1, .inl (.iload_n 1)), (5, 1, .inl (.aload_n 0)), (6, 3, .inr (0, 30, 5, 3, 1055, 0)), (9, 3, .inl (.if_icmp .ge 7)),
  (12, 1, .inl (.iload_n 2)), (13, 3, .inl (.ifCond .ge 5)), (16, 1, .inl (.iconst 0)), (17, 1, .inl .ireturn), (18, 1, .inl (.aload_n 0)), (19, 3, .inr (1, 24, 5, 2, 1054, 0)),
  (22, 1, .inl (.iload_n 1)), (23, 3, .inr (4, 37, 169, 202, 2077, 1)), (26, 1, .inl (.istore_n 3)), (27, 1, .inl (.iload_n 2)), (28, 1, .inl (.aload_n 0)), (29, 3, .inr (1, 24, 5, 2, 1054, 0)),
  (32, 1, .inl (.iload_n 1)), (33, 1, .inl (.iconst 1)), (34, 1, .inl .iadd), (35, 3, .inr (4, 37, 169, 202, 2077, 1)), (38, 1, .inl (.iload_n 3)), (39, 1, .inl .isub),
  (40, 3, .inl (.if_icmp .ge 16)), (43, 1, .inl (.aload_n 0)), (44, 3, .inr (1, 20, 5, 1, 1053, 0)), (47, 1, .inl (.iload_n 3)), (48, 1, .inl (.iload_n 2)), (49, 1, .inl .iadd),
  (50, 3, .inr (4, 37, 169, 202, 2077, 1)), (53, 3, .inl (.goto 4)), (56, 1, .inl (.iconst 0)), (57, 1, .inl .ireturn)]
set_option maxRecDepth 100000 in
theorem okX6_letter : ckM (mt mX6_letter) kX6_letter = true := by decide +kernel
def kX6_find : CD := [
  (0, 1, .inl (.iload_n 3)), (1, 1, .inl (.iload_n 2)), (2, 1, .inl .isub), (3, 2, .inl (.istore 4)), (5, 1, .inl (.iconst 0)), (6, 2, .inl (.istore 5)),
  (8, 2, .inl (.iload 5)), (10, 1, .inl (.aload_n 0)), (11, 3, .inr (1, 24, 5, 2, 1054, 0)), (14, 3, .inr (4, 41, 168, 201, 3161, 1)), (17, 1, .inl (.iconst 1)), (18, 1, .inl .isub),
  (19, 3, .inl (.if_icmp .ge 103)), (22, 1, .inl (.aload_n 0)), (23, 3, .inr (1, 24, 5, 2, 1054, 0)), (26, 2, .inl (.iload 5)), (28, 3, .inr (4, 37, 169, 202, 2077, 1)), (31, 2, .inl (.istore 6)),
  (33, 1, .inl (.aload_n 0)), (34, 3, .inr (1, 24, 5, 2, 1054, 0)), (37, 2, .inl (.iload 5)), (39, 1, .inl (.iconst 1)), (40, 1, .inl .iadd), (41, 3, .inr (4, 37, 169, 202, 2077, 1)),
  (44, 2, .inl (.iload 6)), (46, 1, .inl .isub), (47, 2, .inl (.iload 4)), (49, 3, .inl (.if_icmp .ne 7)), (52, 1, .inl (.iconst 0)), (53, 3, .inl (.goto 4)),
  (56, 1, .inl (.iconst (-1))), (57, 2, .inl (.istore 7)), (59, 2, .inl (.iload 7)), (61, 3, .inl (.ifCond .lt 45)), (64, 2, .inl (.iload 7)), (66, 2, .inl (.iload 4)),
  (68, 3, .inl (.if_icmp .ge 38)), (71, 1, .inl (.aload_n 0)), (72, 3, .inr (1, 20, 5, 1, 1053, 0)), (75, 2, .inl (.iload 6)), (77, 2, .inl (.iload 7)), (79, 1, .inl .iadd),
  (80, 3, .inr (4, 37, 169, 202, 2077, 1)), (83, 3, .inr (4, 45, 16, 9901, 3162, 1)), (86, 1, .inl (.aload_n 1)), (87, 1, .inl (.iload_n 2)), (88, 2, .inl (.iload 7)), (90, 1, .inl .iadd),
  (91, 3, .inr (4, 37, 169, 202, 2077, 1)), (94, 3, .inr (4, 45, 16, 9901, 3162, 1)), (97, 3, .inl (.if_icmp .ne 9)), (100, 3, .inl (.iinc 7 1)), (103, 3, .inl (.goto (-44))), (106, 2, .inl (.iload 7)),
  (108, 2, .inl (.iload 4)), (110, 3, .inl (.if_icmp .ne 6)), (113, 2, .inl (.iload 5)), (115, 1, .inl .ireturn), (116, 3, .inl (.iinc 5 1)), (119, 3, .inl (.goto (-111))),
  (122, 1, .inl (.iconst (-1))), (123, 1, .inl .ireturn)]
set_option maxRecDepth 100000 in
theorem okX6_find : ckM (mt mX6_find) kX6_find = true := by decide +kernel
def kX6_add : CD := [
  (0, 1, .inl (.aload_n 0)), (1, 3, .inr (1, 24, 5, 2, 1054, 0)), (4, 3, .inr (4, 41, 168, 201, 3161, 1)), (7, 1, .inl (.iconst 1)), (8, 1, .inl .isub), (9, 2, .inl (.istore 4)),
  (11, 2, .inl (.iload 4)), (13, 1, .inl (.aload_n 0)), (14, 3, .inr (0, 9, 5, 0, 1052, 0)), (17, 3, .inl (.if_icmp .lt 10)), (20, 1, .inl (.aload_n 0)), (21, 1, .inl (.iconst 1)),
  (22, 3, .inr (3, 33, 5, 4, 1056, 0)), (25, 1, .inl (.iconst 0)), (26, 1, .inl .ireturn), (27, 1, .inl (.iload_n 2)), (28, 2, .inl (.istore 5)), (30, 2, .inl (.iload 5)),
  (32, 1, .inl (.iload_n 3)), (33, 3, .inl (.if_icmp .ge 22)), (36, 1, .inl (.aload_n 0)), (37, 3, .inr (1, 20, 5, 1, 1053, 0)), (40, 1, .inl (.aload_n 1)), (41, 2, .inl (.iload 5)),
  (43, 3, .inr (4, 37, 169, 202, 2077, 1)), (46, 3, .inr (4, 27, 171, 202, 1048, 0)), (49, 3, .inl (.iinc 5 1)), (52, 3, .inl (.goto (-22))), (55, 1, .inl (.aload_n 0)), (56, 3, .inr (1, 24, 5, 2, 1054, 0)),
  (59, 1, .inl (.aload_n 0)), (60, 3, .inr (1, 20, 5, 1, 1053, 0)), (63, 3, .inr (4, 41, 168, 201, 3161, 1)), (66, 3, .inr (4, 27, 171, 202, 1048, 0)), (69, 2, .inl (.iload 4)), (71, 1, .inl .ireturn)]
set_option maxRecDepth 100000 in
theorem okX6_add : ckM (mt mX6_add) kX6_add = true := by decide +kernel
def kX6_keep : CD := [
  (0, 1, .inl (.aload_n 0)), (1, 1, .inl (.aload_n 0)), (2, 3, .inr (1, 24, 5, 2, 1054, 0)), (5, 3, .inr (4, 41, 168, 201, 3161, 1)), (8, 1, .inl (.iconst 1)), (9, 1, .inl .isub),
  (10, 3, .inr (2, 30, 5, 3, 1055, 0)), (13, 1, .inl .return_)]
set_option maxRecDepth 100000 in
theorem okX6_keep : ckM (mt mX6_keep) kX6_keep = true := by decide +kernel
def kX6_forget : CD := [
  (0, 1, .inl (.aload_n 0)), (1, 3, .inr (1, 24, 5, 2, 1054, 0)), (4, 1, .inl (.aload_n 0)), (5, 3, .inr (0, 30, 5, 3, 1055, 0)), (8, 1, .inl (.iconst 1)), (9, 1, .inl .iadd),
  (10, 3, .inr (4, 48, 175, 202, 4195, 0)), (13, 1, .inl (.aload_n 0)), (14, 3, .inr (1, 20, 5, 1, 1053, 0)), (17, 1, .inl (.aload_n 0)), (18, 3, .inr (1, 24, 5, 2, 1054, 0)), (21, 3, .inr (4, 51, 170, 201, 4196, 1)),
  (24, 3, .inr (4, 48, 175, 202, 4195, 0)), (27, 1, .inl (.aload_n 0)), (28, 1, .inl (.iconst 0)), (29, 3, .inr (3, 33, 5, 4, 1056, 0)), (32, 1, .inl .return_)]
set_option maxRecDepth 100000 in
theorem okX6_forget : ckM (mt mX6_forget) kX6_forget = true := by decide +kernel
end
section
/-! the class's cells: 0 the object; a Row at r has its numbers at r + 1 -/
def lgN {α : Type} : List α → Nat → α → α
  | [], _, d => d
  | a :: _, 0, _ => a
  | _ :: l, n + 1, d => lgN l n d
def layC : List (Nat × Nat × Nat) := [(0, 6, 0),
  (0, 2, 0), (1, 0, 1040), (0, 2, 0), (1, 0, 1024), (0, 2, 0), (1, 0, 8), (0, 2, 0), (1, 0, 2560), (0, 2, 0), (1, 0, 2560),
  (0, 5, 0), (0, 2, 0), (1, 0, 248), (0, 2, 0), (1, 0, 9),
  (0, 5, 0), (0, 2, 0), (1, 0, 8000), (0, 2, 0), (1, 0, 201),
  (0, 3, 0), (0, 2, 0), (1, 0, 255), (0, 4, 0), (0, 4, 0),
  (0, 1, 0), (0, 2, 0), (1, 0, 1024), (0, 2, 0), (1, 0, 60), (0, 2, 0), (1, 0, 60),
  (0, 0, 0), (0, 2, 0), (1, 0, 1024), (0, 2, 0), (1, 0, 1024), (0, 2, 0), (1, 0, 1024), (0, 2, 0), (1, 0, 512), (0, 2, 0), (1, 0, 15), (1, 0, 4510)]
def rfC : List (List Nat) := [[1, 3, 11, 16, 5, 7, 9, 21, 26, 33],
  [2], [], [4], [], [6], [], [8], [], [10], [],
  [0, 12, 14], [13], [], [15], [],
  [0, 17, 19], [18], [], [20], [],
  [3, 9, 22, 24, 25], [23], [], [], [],
  [3, 9, 21, 11, 16, 27, 29, 31], [28], [], [30], [], [32], [],
  [7, 11, 16, 5, 34, 36, 38, 40, 42, 44], [35], [], [37], [], [39], [], [41], [], [43], [], []]
def wdC : WD := (45, fun k => lgN layC k (1, 9, 0), fun k j => lgN (lgN rfC k []) j 0)
end
section
/-! the class: what each stretch of a method comes to (by program) -/
set_option maxRecDepth 20000 in
theorem sX7_feed {d : Nat} {R : AR} {h : AH} {x1 : Int} {x2 : Int} {x3 : Int} {x4 : Int} {x5 : Int}
    (H : Call wdC d mX3_size [vR 1] h (rI fun v2 h1 => (v2 < 1040 → Call wdC d mX7_putBytes [vR 0, vI x1] h1 (rV fun h3 => Call wdC d mX7_putBytes [vR 0, vI x2] h3 (rV fun h4 => Call wdC d mX7_putBytes [vR 0, vI x3] h4 (rV fun h5 => Call wdC d mX7_putBytes [vR 0, vI x4] h5 (rV fun h6 => Call wdC d mX7_putBytes [vR 0, vI x5] h6 (rV fun h7 => R (some (vI 1)) h7)))))) ∧ (¬ (v2 < 1040) → R (some (vI 0)) h1))) : At wdC (d + 1) mX7_feed 0 [some (vR 0), some (vI x1), some (vI x2), some (vI x3), some (vI x4), some (vI x5)] [] h R :=
  At.wp 400 kX7_feed [] okX7_feed rfl ⟨_, _, _, rfl⟩ H
set_option maxRecDepth 20000 in
theorem sX7_putBytes {d : Nat} {R : AR} {h : AH} {x1 : Int}
    (H : At wdC (d + 1) mX7_putBytes 3 [some (vR 0), some (vI x1), some (vI 24)] [] h R) : At wdC (d + 1) mX7_putBytes 0 [some (vR 0), some (vI x1), none] [] h R :=
  At.wp 400 kX7_putBytes [(3, [true, true, true])] okX7_putBytes rfl ⟨_, _, _, rfl⟩ H
set_option maxRecDepth 20000 in
theorem sX7_putBytes_3 {d : Nat} {R : AR} {h : AH} {x1 : Int} {x2 : Int}
    (H : (x2 < 0 → R none h) ∧ (¬ (x2 < 0) → Call wdC d mX3_add [vR 1, vI (andI (shrI x1 x2) 255)] h (rV fun h1 => inR (x2 + (-8)) ∧ (At wdC (d + 1) mX7_putBytes 3 [some (vR 0), some (vI x1), some (vI (x2 + (-8)))] [] h1 R)))) : At wdC (d + 1) mX7_putBytes 3 [some (vR 0), some (vI x1), some (vI x2)] [] h R :=
  At.wp 400 kX7_putBytes [(3, [true, true, true])] okX7_putBytes rfl ⟨_, _, _, rfl⟩ H
set_option maxRecDepth 20000 in
theorem sX7_end {d : Nat} {R : AR} {h : AH} {x1 : Int}
    (H : (x1 < 0 → R (some (vI 0)) h) ∧ (¬ (x1 < 0) → Call wdC d mX3_size [vR 1] h (rI fun v2 h1 => (v2 < x1 → R (some (vI 0)) h1) ∧ (¬ (v2 < x1) → (x1 ≤ 1024 → Call wdC d mX3_cut [vR 1, vI x1] h1 (rV fun h3 => Call wdC d mX3_copy [vR 3, vR 1] h3 (rV fun h4 => Call wdC d mX3_clear [vR 1] h4 (rV fun h5 => R (some (vI 1)) h5)))) ∧ (¬ (x1 ≤ 1024) → R (some (vI 0)) h1))))) : At wdC (d + 1) mX7_end 0 [some (vR 0), some (vI x1)] [] h R :=
  At.wp 400 kX7_end [] okX7_end rfl ⟨_, _, _, rfl⟩ H
set_option maxRecDepth 20000 in
theorem sX7_illAt {d : Nat} {R : AR} {h : AH} 
    (H : R (some (vI (gS h 0 10))) h) : At wdC d mX7_illAt 0 [some (vR 0)] [] h R :=
  At.wp 400 kX7_illAt [] okX7_illAt rfl ⟨_, _, _, rfl⟩ H
set_option maxRecDepth 20000 in
theorem sX7_word {d : Nat} {R : AR} {h : AH} {x1 : Int}
    (H : Call wdC d mX3_get [vR 7, vI x1] h (rI fun v2 h1 => R (some (vI v2)) h1)) : At wdC (d + 1) mX7_word 0 [some (vR 0), some (vI x1)] [] h R :=
  At.wp 400 kX7_word [] okX7_word rfl ⟨_, _, _, rfl⟩ H
set_option maxRecDepth 20000 in
theorem sX7_names {d : Nat} {R : AR} {h : AH} 
    (H : Call wdC d mX6_count [vR 16] h (rI fun v2 h1 => R (some (vI v2)) h1)) : At wdC (d + 1) mX7_names 0 [some (vR 0)] [] h R :=
  At.wp 400 kX7_names [] okX7_names rfl ⟨_, _, _, rfl⟩ H
set_option maxRecDepth 20000 in
theorem sX7_name {d : Nat} {R : AR} {h : AH} {x1 : Int} {x2 : Int}
    (H : Call wdC d mX6_letter [vR 16, vI x1, vI x2] h (rI fun v2 h1 => R (some (vI v2)) h1)) : At wdC (d + 1) mX7_name 0 [some (vR 0), some (vI x1), some (vI x2)] [] h R :=
  At.wp 400 kX7_name [] okX7_name rfl ⟨_, _, _, rfl⟩ H
set_option maxRecDepth 20000 in
theorem sX7_reference {d : Nat} {R : AR} {h : AH} {x1 : Int} {x2 : Int}
    (H : (x1 < 0 → R (some (vI (-1))) h) ∧ (¬ (x1 < 0) → (x2 < 0 → R (some (vI (-1))) h) ∧ (¬ (x2 < 0) → (x2 ≤ 4 → At wdC (d + 1) mX7_reference 20 [some (vR 0), some (vI x1), some (vI x2), some (vI 0), some (vI 0), none] [] h R) ∧ (¬ (x2 ≤ 4) → R (some (vI (-1))) h)))) : At wdC (d + 1) mX7_reference 0 [some (vR 0), some (vI x1), some (vI x2), none, none, none] [] h R :=
  At.wp 400 kX7_reference [(20, [true, true, true, true, true, false])] okX7_reference rfl ⟨_, _, _, rfl⟩ H
set_option maxRecDepth 20000 in
theorem sX7_reference_20 {d : Nat} {R : AR} {h : AH} {x1 : Int} {x2 : Int} {x3 : Int} {x4 : Int}
    (H : Call wdC d mX3_size [vR 7] h (rI fun v2 h1 => (v2 ≤ x4 → R (some (vI (-1))) h1) ∧ (¬ (v2 ≤ x4) → Call wdC d mX3_get [vR 7, vI x4] h1 (rI fun v4 h3 => Call wdC d mX7_kindOf [vI v4] h3 (rI fun v6 h5 => (v6 = 4 → (x3 ≠ x1 → inR (x3 + 1) ∧ (Call wdC d mX3_get [vR 7, vI x4] h5 (rI fun v8 h7 => Call wdC d mX7_itemSize [vI v8] h7 (rI fun v10 h9 => inR (x4 + v10) ∧ (At wdC (d + 1) mX7_reference 20 [some (vR 0), some (vI x1), some (vI x2), some (vI (x3 + 1)), some (vI (x4 + v10)), none] [] h9 R))))) ∧ (¬ (x3 ≠ x1) → Call wdC d mX7_referencePart [vR 0, vI v6, vI x4, vI x2] h5 (rI fun v12 h11 => R (some (vI v12)) h11))) ∧ (¬ (v6 = 4) → (v6 ≠ 5 → Call wdC d mX3_get [vR 7, vI x4] h5 (rI fun v14 h13 => Call wdC d mX7_itemSize [vI v14] h13 (rI fun v16 h15 => inR (x4 + v16) ∧ (At wdC (d + 1) mX7_reference 20 [some (vR 0), some (vI x1), some (vI x2), some (vI x3), some (vI (x4 + v16)), none] [] h15 R)))) ∧ (¬ (v6 ≠ 5) → (x3 ≠ x1 → inR (x3 + 1) ∧ (Call wdC d mX3_get [vR 7, vI x4] h5 (rI fun v18 h17 => Call wdC d mX7_itemSize [vI v18] h17 (rI fun v20 h19 => inR (x4 + v20) ∧ (At wdC (d + 1) mX7_reference 20 [some (vR 0), some (vI x1), some (vI x2), some (vI (x3 + 1)), some (vI (x4 + v20)), none] [] h19 R))))) ∧ (¬ (x3 ≠ x1) → Call wdC d mX7_referencePart [vR 0, vI v6, vI x4, vI x2] h5 (rI fun v22 h21 => R (some (vI v22)) h21))))))))) : At wdC (d + 1) mX7_reference 20 [some (vR 0), some (vI x1), some (vI x2), some (vI x3), some (vI x4), none] [] h R :=
  At.wp 400 kX7_reference [(20, [true, true, true, true, true, false])] okX7_reference rfl ⟨_, _, _, rfl⟩ H
set_option maxRecDepth 20000 in
theorem sX7_referencePart {d : Nat} {R : AR} {h : AH} {x1 : Int} {x2 : Int} {x3 : Int}
    (H : (x1 ≠ 4 → inR (x2 + 1) ∧ (((0 : Int) = 0 → inR ((x2 + 1) + x3) ∧ (Call wdC d mX3_get [vR 7, vI ((x2 + 1) + x3)] h (rI fun v2 h1 => R (some (vI v2)) h1))) ∧ (¬ ((0 : Int) = 0) → inR (x3 - 2) ∧ (inR ((x2 + 1) + (x3 - 2)) ∧ (Call wdC d mX3_get [vR 7, vI ((x2 + 1) + (x3 - 2))] h (rI fun v4 h3 => R (some (vI v4)) h3)))))) ∧ (¬ (x1 ≠ 4) → (x3 ≤ 2 → inR (x2 + 1) ∧ (((0 : Int) = 0 → inR ((x2 + 1) + x3) ∧ (Call wdC d mX3_get [vR 7, vI ((x2 + 1) + x3)] h (rI fun v6 h5 => R (some (vI v6)) h5))) ∧ (¬ ((0 : Int) = 0) → inR (x3 - 2) ∧ (inR ((x2 + 1) + (x3 - 2)) ∧ (Call wdC d mX3_get [vR 7, vI ((x2 + 1) + (x3 - 2))] h (rI fun v8 h7 => R (some (vI v8)) h7)))))) ∧ (¬ (x3 ≤ 2) → inR (x2 + 1) ∧ (((1 : Int) = 0 → inR ((x2 + 1) + x3) ∧ (Call wdC d mX3_get [vR 7, vI ((x2 + 1) + x3)] h (rI fun v10 h9 => R (some (vI v10)) h9))) ∧ (¬ ((1 : Int) = 0) → inR (x3 - 2) ∧ (inR ((x2 + 1) + (x3 - 2)) ∧ (Call wdC d mX3_get [vR 7, vI ((x2 + 1) + (x3 - 2))] h (rI fun v12 h11 => R (some (vI v12)) h11)))))))) : At wdC (d + 1) mX7_referencePart 0 [some (vR 0), some (vI x1), some (vI x2), some (vI x3), none] [] h R :=
  At.wp 400 kX7_referencePart [] okX7_referencePart rfl ⟨_, _, _, rfl⟩ H
set_option maxRecDepth 20000 in
theorem sX7_print {d : Nat} {R : AR} {h : AH} 
    (H : Call wdC d mX3_size [vR 7] h (rI fun v2 h1 => (v2 ≠ 0 → Call wdC d mX1_run [vR 33] h1 (rV fun h3 => Call wdC d mX1_size [vR 33] h3 (rI fun v5 h4 => R (some (vI v5)) h4))) ∧ (¬ (v2 ≠ 0) → R (some (vI 0)) h1))) : At wdC (d + 1) mX7_print 0 [some (vR 0)] [] h R :=
  At.wp 400 kX7_print [] okX7_print rfl ⟨_, _, _, rfl⟩ H
set_option maxRecDepth 20000 in
theorem sX7_output {d : Nat} {R : AR} {h : AH} {x1 : Int}
    (H : Call wdC d mX1_letter [vR 33, vI x1] h (rI fun v2 h1 => R (some (vI v2)) h1)) : At wdC (d + 1) mX7_output 0 [some (vR 0), some (vI x1)] [] h R :=
  At.wp 400 kX7_output [] okX7_output rfl ⟨_, _, _, rfl⟩ H
set_option maxRecDepth 20000 in
theorem sX7_again {d : Nat} {R : AR} {h : AH} 
    (H : Call wdC d mX3_clear [vR 3] h (rV fun h1 => At wdC (d + 1) mX7_again 9 [some (vR 0), some (vI 0)] [] h1 R)) : At wdC (d + 1) mX7_again 0 [some (vR 0), none] [] h R :=
  At.wp 400 kX7_again [(9, [true, true])] okX7_again rfl ⟨_, _, _, rfl⟩ H
set_option maxRecDepth 20000 in
theorem sX7_again_9 {d : Nat} {R : AR} {h : AH} {x1 : Int}
    (H : Call wdC d mX1_size [vR 33] h (rI fun v3 h2 => (v3 ≤ x1 → R none h2) ∧ (¬ (v3 ≤ x1) → (1024 ≤ x1 → R none h2) ∧ (¬ (1024 ≤ x1) → Call wdC d mX1_letter [vR 33, vI x1] h2 (rI fun v5 h4 => Call wdC d mX3_add [vR 3, vI v5] h4 (rV fun h6 => inR (x1 + 1) ∧ (At wdC (d + 1) mX7_again 9 [some (vR 0), some (vI (x1 + 1))] [] h6 R))))))) : At wdC (d + 1) mX7_again 9 [some (vR 0), some (vI x1)] [] h R :=
  At.wp 400 kX7_again [(9, [true, true])] okX7_again rfl ⟨_, _, _, rfl⟩ H
set_option maxRecDepth 20000 in
theorem sX7_isPlain {d : Nat} {R : AR} {h : AH} 
    (H : At wdC (d + 1) mX7_isPlain 2 [some (vR 3), some (vI 0)] [] h R) : At wdC (d + 1) mX7_isPlain 0 [some (vR 3), none] [] h R :=
  At.wp 400 kX7_isPlain [(2, [true, true])] okX7_isPlain rfl ⟨_, _, _, rfl⟩ H
set_option maxRecDepth 20000 in
theorem sX7_isPlain_2 {d : Nat} {R : AR} {h : AH} {x1 : Int}
    (H : Call wdC d mX3_size [vR 3] h (rI fun v2 h1 => (v2 ≤ x1 → R (some (vI 1)) h1) ∧ (¬ (v2 ≤ x1) → Call wdC d mX3_get [vR 3, vI x1] h1 (rI fun v4 h3 => (v4 < 32 → R (some (vI 0)) h3) ∧ (¬ (v4 < 32) → Call wdC d mX3_get [vR 3, vI x1] h3 (rI fun v6 h5 => (v6 ≤ 126 → inR (x1 + 1) ∧ (At wdC (d + 1) mX7_isPlain 2 [some (vR 3), some (vI (x1 + 1))] [] h5 R)) ∧ (¬ (v6 ≤ 126) → R (some (vI 0)) h5))))))) : At wdC (d + 1) mX7_isPlain 2 [some (vR 3), some (vI x1)] [] h R :=
  At.wp 400 kX7_isPlain [(2, [true, true])] okX7_isPlain rfl ⟨_, _, _, rfl⟩ H
set_option maxRecDepth 20000 in
theorem sX7_isDigit {d : Nat} {R : AR} {h : AH} {x0 : Int}
    (H : (x0 < 48 → R (some (vI 0)) h) ∧ (¬ (x0 < 48) → (57 < x0 → R (some (vI 0)) h) ∧ (¬ (57 < x0) → R (some (vI 1)) h))) : At wdC d mX7_isDigit 0 [some (vI x0)] [] h R :=
  At.wp 400 kX7_isDigit [] okX7_isDigit rfl ⟨_, _, _, rfl⟩ H
set_option maxRecDepth 20000 in
theorem sX7_isLetter {d : Nat} {R : AR} {h : AH} {x0 : Int}
    (H : (x0 < 65 → (x0 < 97 → R (some (vI 0)) h) ∧ (¬ (x0 < 97) → (122 < x0 → R (some (vI 0)) h) ∧ (¬ (122 < x0) → R (some (vI 1)) h))) ∧ (¬ (x0 < 65) → (x0 ≤ 90 → R (some (vI 1)) h) ∧ (¬ (x0 ≤ 90) → (x0 < 97 → R (some (vI 0)) h) ∧ (¬ (x0 < 97) → (122 < x0 → R (some (vI 0)) h) ∧ (¬ (122 < x0) → R (some (vI 1)) h))))) : At wdC d mX7_isLetter 0 [some (vI x0)] [] h R :=
  At.wp 400 kX7_isLetter [] okX7_isLetter rfl ⟨_, _, _, rfl⟩ H
set_option maxRecDepth 20000 in
theorem sX7_isWordPart {d : Nat} {R : AR} {h : AH} {x0 : Int}
    (H : (x0 < 65 → (x0 < 97 → (x0 < 48 → (x0 = 95 → R (some (vI 1)) h) ∧ (¬ (x0 = 95) → (x0 ≠ 46 → R (some (vI 0)) h) ∧ (¬ (x0 ≠ 46) → R (some (vI 1)) h))) ∧ (¬ (x0 < 48) → (x0 ≤ 57 → R (some (vI 1)) h) ∧ (¬ (x0 ≤ 57) → (x0 = 95 → R (some (vI 1)) h) ∧ (¬ (x0 = 95) → (x0 ≠ 46 → R (some (vI 0)) h) ∧ (¬ (x0 ≠ 46) → R (some (vI 1)) h))))) ∧ (¬ (x0 < 97) → (x0 ≤ 122 → R (some (vI 1)) h) ∧ (¬ (x0 ≤ 122) → (x0 < 48 → (x0 = 95 → R (some (vI 1)) h) ∧ (¬ (x0 = 95) → (x0 ≠ 46 → R (some (vI 0)) h) ∧ (¬ (x0 ≠ 46) → R (some (vI 1)) h))) ∧ (¬ (x0 < 48) → (x0 ≤ 57 → R (some (vI 1)) h) ∧ (¬ (x0 ≤ 57) → (x0 = 95 → R (some (vI 1)) h) ∧ (¬ (x0 = 95) → (x0 ≠ 46 → R (some (vI 0)) h) ∧ (¬ (x0 ≠ 46) → R (some (vI 1)) h))))))) ∧ (¬ (x0 < 65) → (x0 ≤ 90 → R (some (vI 1)) h) ∧ (¬ (x0 ≤ 90) → (x0 < 97 → (x0 < 48 → (x0 = 95 → R (some (vI 1)) h) ∧ (¬ (x0 = 95) → (x0 ≠ 46 → R (some (vI 0)) h) ∧ (¬ (x0 ≠ 46) → R (some (vI 1)) h))) ∧ (¬ (x0 < 48) → (x0 ≤ 57 → R (some (vI 1)) h) ∧ (¬ (x0 ≤ 57) → (x0 = 95 → R (some (vI 1)) h) ∧ (¬ (x0 = 95) → (x0 ≠ 46 → R (some (vI 0)) h) ∧ (¬ (x0 ≠ 46) → R (some (vI 1)) h))))) ∧ (¬ (x0 < 97) → (x0 ≤ 122 → R (some (vI 1)) h) ∧ (¬ (x0 ≤ 122) → (x0 < 48 → (x0 = 95 → R (some (vI 1)) h) ∧ (¬ (x0 = 95) → (x0 ≠ 46 → R (some (vI 0)) h) ∧ (¬ (x0 ≠ 46) → R (some (vI 1)) h))) ∧ (¬ (x0 < 48) → (x0 ≤ 57 → R (some (vI 1)) h) ∧ (¬ (x0 ≤ 57) → (x0 = 95 → R (some (vI 1)) h) ∧ (¬ (x0 = 95) → (x0 ≠ 46 → R (some (vI 0)) h) ∧ (¬ (x0 ≠ 46) → R (some (vI 1)) h))))))))) : At wdC d mX7_isWordPart 0 [some (vI x0)] [] h R :=
  At.wp 400 kX7_isWordPart [] okX7_isWordPart rfl ⟨_, _, _, rfl⟩ H
set_option maxRecDepth 20000 in
theorem sX7_capital {d : Nat} {R : AR} {h : AH} {x0 : Int}
    (H : (x0 < 97 → R (some (vI x0)) h) ∧ (¬ (x0 < 97) → (122 < x0 → R (some (vI x0)) h) ∧ (¬ (122 < x0) → inR (x0 - 32) ∧ (R (some (vI (x0 - 32))) h)))) : At wdC d mX7_capital 0 [some (vI x0)] [] h R :=
  At.wp 400 kX7_capital [] okX7_capital rfl ⟨_, _, _, rfl⟩ H
set_option maxRecDepth 20000 in
theorem sX7_wordEnd {d : Nat} {R : AR} {h : AH} {x1 : Int}
    (H : Call wdC d mX3_get [vR 3, vI x1] h (rI fun v2 h1 => Call wdC d mX7_isLetter [vI v2] h1 (rI fun v4 h3 => (v4 ≠ 0 → At wdC (d + 1) mX7_wordEnd 23 [some (vR 3), none, some (vI x1)] [] h3 R) ∧ (¬ (v4 ≠ 0) → Call wdC d mX3_get [vR 3, vI x1] h3 (rI fun v6 h5 => (v6 ≠ 95 → R (some (vI x1)) h5) ∧ (¬ (v6 ≠ 95) → At wdC (d + 1) mX7_wordEnd 23 [some (vR 3), none, some (vI x1)] [] h5 R)))))) : At wdC (d + 1) mX7_wordEnd 0 [some (vR 3), some (vI x1), none] [] h R :=
  At.wp 400 kX7_wordEnd [(23, [true, false, true])] okX7_wordEnd rfl ⟨_, _, _, rfl⟩ H
set_option maxRecDepth 20000 in
theorem sX7_wordEnd_23 {d : Nat} {R : AR} {h : AH} {x2 : Int}
    (H : Call wdC d mX3_size [vR 3] h (rI fun v8 h7 => (v8 ≤ x2 → R (some (vI x2)) h7) ∧ (¬ (v8 ≤ x2) → Call wdC d mX3_get [vR 3, vI x2] h7 (rI fun v10 h9 => Call wdC d mX7_isWordPart [vI v10] h9 (rI fun v12 h11 => (v12 = 0 → R (some (vI x2)) h11) ∧ (¬ (v12 = 0) → inR (x2 + 1) ∧ (At wdC (d + 1) mX7_wordEnd 23 [some (vR 3), none, some (vI (x2 + 1))] [] h11 R))))))) : At wdC (d + 1) mX7_wordEnd 23 [some (vR 3), none, some (vI x2)] [] h R :=
  At.wp 400 kX7_wordEnd [(23, [true, false, true])] okX7_wordEnd rfl ⟨_, _, _, rfl⟩ H
set_option maxRecDepth 20000 in
theorem sX7_startsWith {d : Nat} {R : AR} {h : AH} {x1 : Int} {r2 : Nat}
    (H : At wdC (d + 1) mX7_startsWith 2 [some (vR 3), some (vI x1), some (vR r2), some (vI 0)] [] h R) : At wdC (d + 1) mX7_startsWith 0 [some (vR 3), some (vI x1), some (vR r2), none] [] h R :=
  At.wp 400 kX7_startsWith [(2, [true, true, true, true])] okX7_startsWith rfl ⟨_, _, _, rfl⟩ H
set_option maxRecDepth 20000 in
theorem sX7_startsWith_2 {d : Nat} {R : AR} {h : AH} {x1 : Int} {r2 : Nat} {x3 : Int}
    (H : ob (isStr r2) (Call wdC d mS_length [vR r2] h (rI fun v2 h1 => (v2 ≤ x3 → R (some (vI 1)) h1) ∧ (¬ (v2 ≤ x3) → inR (x1 + x3) ∧ (Call wdC d mX3_get [vR 3, vI (x1 + x3)] h1 (rI fun v4 h3 => Call wdC d mX7_capital [vI v4] h3 (rI fun v6 h5 => ob (isStr r2) (Call wdC d mS_charAt [vR r2, vI x3] h5 (rI fun v8 h7 => (v6 = v8 → inR (x3 + 1) ∧ (At wdC (d + 1) mX7_startsWith 2 [some (vR 3), some (vI x1), some (vR r2), some (vI (x3 + 1))] [] h7 R)) ∧ (¬ (v6 = v8) → R (some (vI 0)) h7)))))))))) : At wdC (d + 1) mX7_startsWith 2 [some (vR 3), some (vI x1), some (vR r2), some (vI x3)] [] h R :=
  At.wp 400 kX7_startsWith [(2, [true, true, true, true])] okX7_startsWith rfl ⟨_, _, _, rfl⟩ H
set_option maxRecDepth 20000 in
theorem sX7_isSame {d : Nat} {R : AR} {h : AH} {x1 : Int} {x2 : Int} {r3 : Nat}
    (H : inR (x2 - x1) ∧ (ob (isStr r3) (Call wdC d mS_length [vR r3] h (rI fun v2 h1 => ((x2 - x1) ≠ v2 → R (some (vI 0)) h1) ∧ (¬ ((x2 - x1) ≠ v2) → Call wdC d mX7_startsWith [vR 3, vI x1, vR r3] h1 (rI fun v4 h3 => (v4 = 0 → R (some (vI 0)) h3) ∧ (¬ (v4 = 0) → R (some (vI 1)) h3))))))) : At wdC (d + 1) mX7_isSame 0 [some (vR 3), some (vI x1), some (vI x2), some (vR r3)] [] h R :=
  At.wp 400 kX7_isSame [] okX7_isSame rfl ⟨_, _, _, rfl⟩ H
set_option maxRecDepth 20000 in
theorem sX7_functionNumber {d : Nat} {R : AR} {h : AH} {x1 : Int} {x2 : Int}
    (H : At wdC (d + 1) mX7_functionNumber 2 [some (vR 3), some (vI x1), some (vI x2), some (vI 0)] [] h R) : At wdC (d + 1) mX7_functionNumber 0 [some (vR 3), some (vI x1), some (vI x2), none] [] h R :=
  At.wp 400 kX7_functionNumber [(2, [true, true, true, true])] okX7_functionNumber rfl ⟨_, _, _, rfl⟩ H
set_option maxRecDepth 20000 in
theorem sX7_functionNumber_2 {d : Nat} {R : AR} {h : AH} {x1 : Int} {x2 : Int} {x3 : Int}
    (H : (133 ≤ x3 → R (some (vI (-1))) h) ∧ (¬ (133 ≤ x3) → (0 ≤ x3 ∧ x3 < 133) ∧ (ob (isEn (2000 + x3.toNat)) (Call wdC d mX7_isSame [vR 3, vI x1, vI x2, vR (1000 + efS (2000 + x3.toNat - 2000))] h (rI fun v2 h1 => (v2 = 0 → inR (x3 + 1) ∧ (At wdC (d + 1) mX7_functionNumber 2 [some (vR 3), some (vI x1), some (vI x2), some (vI (x3 + 1))] [] h1 R)) ∧ (¬ (v2 = 0) → R (some (vI x3)) h1)))))) : At wdC (d + 1) mX7_functionNumber 2 [some (vR 3), some (vI x1), some (vI x2), some (vI x3)] [] h R :=
  At.wp 400 kX7_functionNumber [(2, [true, true, true, true])] okX7_functionNumber rfl ⟨_, _, _, rfl⟩ H
set_option maxRecDepth 20000 in
theorem sX7_errorText {d : Nat} {R : AR} {h : AH} {x0 : Int}
    (H : (x0 < 1 ∨ 7 < x0 → R (some (vR 1017)) h) ∧ (x0 = 1 → R (some (vR 1010)) h) ∧ (x0 = 2 → R (some (vR 1011)) h) ∧ (x0 = 3 → R (some (vR 1012)) h) ∧ (x0 = 4 → R (some (vR 1013)) h) ∧ (x0 = 5 → R (some (vR 1014)) h) ∧ (x0 = 6 → R (some (vR 1015)) h) ∧ (x0 = 7 → R (some (vR 1016)) h) ∧ True) : At wdC d mX7_errorText 0 [some (vI x0)] [] h R :=
  At.wp 400 kX7_errorText [] okX7_errorText rfl ⟨_, _, _, rfl⟩ H
set_option maxRecDepth 20000 in
theorem sX7_operationText {d : Nat} {R : AR} {h : AH} {x0 : Int}
    (H : (x0 < 0 ∨ 15 < x0 → R (some (vR 1017)) h) ∧ (x0 = 0 → R (some (vR 1022)) h) ∧ (x0 = 1 → R (some (vR 1023)) h) ∧ (x0 = 2 → R (some (vR 1024)) h) ∧ (x0 = 3 → R (some (vR 1025)) h) ∧ (x0 = 4 → R (some (vR 1026)) h) ∧ (x0 = 5 → R (some (vR 1027)) h) ∧ (x0 = 6 → R (some (vR 1028)) h) ∧ (x0 = 7 → R (some (vR 1029)) h) ∧ (x0 = 8 → R (some (vR 1030)) h) ∧ (x0 = 9 → R (some (vR 1031)) h) ∧ (x0 = 10 → R (some (vR 1032)) h) ∧ (x0 = 11 → R (some (vR 1033)) h) ∧ (x0 = 12 → R (some (vR 1034)) h) ∧ (x0 = 13 → R (some (vR 1030)) h) ∧ (x0 = 14 → R (some (vR 1029)) h) ∧ (x0 = 15 → R (some (vR 1035)) h) ∧ True) : At wdC d mX7_operationText 0 [some (vI x0)] [] h R :=
  At.wp 400 kX7_operationText [] okX7_operationText rfl ⟨_, _, _, rfl⟩ H
set_option maxRecDepth 20000 in
theorem sX7_item {d : Nat} {R : AR} {h : AH} {x0 : Int} {x1 : Int}
    (H : inR (16 * x1) ∧ (inR (x0 + (16 * x1)) ∧ (R (some (vI (x0 + (16 * x1)))) h))) : At wdC d mX7_item 0 [some (vI x0), some (vI x1)] [] h R :=
  At.wp 400 kX7_item [] okX7_item rfl ⟨_, _, _, rfl⟩ H
set_option maxRecDepth 20000 in
theorem sX7_kindOf {d : Nat} {R : AR} {h : AH} {x0 : Int}
    (H : R (some (vI (andI x0 15))) h) : At wdC d mX7_kindOf 0 [some (vI x0)] [] h R :=
  At.wp 400 kX7_kindOf [] okX7_kindOf rfl ⟨_, _, _, rfl⟩ H
set_option maxRecDepth 20000 in
theorem sX7_xOf {d : Nat} {R : AR} {h : AH} {x0 : Int}
    (H : R (some (vI (shrI x0 4))) h) : At wdC d mX7_xOf 0 [some (vI x0)] [] h R :=
  At.wp 400 kX7_xOf [] okX7_xOf rfl ⟨_, _, _, rfl⟩ H
set_option maxRecDepth 20000 in
theorem sX7_itemSize {d : Nat} {R : AR} {h : AH} {x0 : Int}
    (H : Call wdC d mX7_kindOf [vI x0] h (rI fun v2 h1 => (v2 < 0 ∨ 11 < v2 → R (some (vI 1)) h1) ∧ (v2 = 0 → R (some (vI 4)) h1) ∧ (v2 = 1 → Call wdC d mX7_xOf [vI x0] h1 (rI fun v4 h3 => inR (v4 + 3) ∧ (((4 : Int) ≠ 0 ∧ inR (Int.tdiv (v4 + 3) 4)) ∧ (inR (1 + (Int.tdiv (v4 + 3) 4)) ∧ (R (some (vI (1 + (Int.tdiv (v4 + 3) 4)))) h3))))) ∧ (v2 = 2 → R (some (vI 1)) h1) ∧ (v2 = 3 → R (some (vI 1)) h1) ∧ (v2 = 4 → R (some (vI 4)) h1) ∧ (v2 = 5 → R (some (vI 6)) h1) ∧ (v2 = 6 → R (some (vI 1)) h1) ∧ (v2 = 7 → R (some (vI 1)) h1) ∧ (v2 = 8 → R (some (vI 2)) h1) ∧ (v2 = 9 → R (some (vI 1)) h1) ∧ (v2 = 10 → R (some (vI 1)) h1) ∧ (v2 = 11 → R (some (vI 2)) h1) ∧ True)) : At wdC (d + 1) mX7_itemSize 0 [some (vI x0)] [] h R :=
  At.wp 400 kX7_itemSize [] okX7_itemSize rfl ⟨_, _, _, rfl⟩ H
set_option maxRecDepth 20000 in
theorem sX1_size {d : Nat} {R : AR} {h : AH} 
    (H : inR (4510 - (gS h 33 10)) ∧ (R (some (vI (4510 - (gS h 33 10)))) h)) : At wdC d mX1_size 0 [some (vR 33)] [] h R :=
  At.wp 400 kX1_size [] okX1_size rfl ⟨_, _, _, rfl⟩ H
set_option maxRecDepth 20000 in
theorem sX1_letter {d : Nat} {R : AR} {h : AH} {x1 : Int}
    (H : (x1 < 0 → R (some (vI 0)) h) ∧ (¬ (x1 < 0) → Call wdC d mX1_size [vR 33] h (rI fun v2 h1 => (x1 < v2 → inR ((gS h1 33 10) + x1) ∧ ((((gS h1 33 10) + x1) < 0 → R (some (vI 0)) h1) ∧ (¬ (((gS h1 33 10) + x1) < 0) → (4510 ≤ ((gS h1 33 10) + x1) → R (some (vI 0)) h1) ∧ (¬ (4510 ≤ ((gS h1 33 10) + x1)) → (0 ≤ ((gS h1 33 10) + x1) ∧ ((gS h1 33 10) + x1) < 4510) ∧ (R (some (vI (gA h1 44 ((gS h1 33 10) + x1)))) h1))))) ∧ (¬ (x1 < v2) → R (some (vI 0)) h1)))) : At wdC (d + 1) mX1_letter 0 [some (vR 33), some (vI x1), none] [] h R :=
  At.wp 400 kX1_letter [] okX1_letter rfl ⟨_, _, _, rfl⟩ H
set_option maxRecDepth 20000 in
theorem sX1_run {d : Nat} {R : AR} {h : AH} 
    (H : Call wdC d mX3_clear [vR 36] (pS h 33 10 4510) (rV fun h1 => Call wdC d mX3_clear [vR 38] h1 (rV fun h2 => Call wdC d mX3_clear [vR 34] h2 (rV fun h3 => At wdC (d + 1) mX1_run 32 [some (vR 33), some (vI 0), none, none] [] h3 R)))) : At wdC (d + 1) mX1_run 0 [some (vR 33), none, none, none] [] h R :=
  At.wp 400 kX1_run [(32, [true, true, false, false]), (78, [true, true, false, false])] okX1_run rfl ⟨_, _, _, rfl⟩ H
set_option maxRecDepth 20000 in
theorem sX1_run_32 {d : Nat} {R : AR} {h : AH} {x1 : Int}
    (H : Call wdC d mX3_size [vR 7] h (rI fun v5 h4 => (v5 ≤ x1 → Call wdC d mX3_size [vR 34] h4 (rI fun v7 h6 => inR (v7 - 1) ∧ (At wdC (d + 1) mX1_run 78 [some (vR 33), some (vI (v7 - 1)), none, none] [] h6 R))) ∧ (¬ (v5 ≤ x1) → Call wdC d mX3_add [vR 34, vI x1] h4 (rV fun h8 => Call wdC d mX3_get [vR 7, vI x1] h8 (rI fun v10 h9 => Call wdC d mX7_itemSize [vI v10] h9 (rI fun v12 h11 => inR (x1 + v12) ∧ (At wdC (d + 1) mX1_run 32 [some (vR 33), some (vI (x1 + v12)), none, none] [] h11 R))))))) : At wdC (d + 1) mX1_run 32 [some (vR 33), some (vI x1), none, none] [] h R :=
  At.wp 400 kX1_run [(32, [true, true, false, false]), (78, [true, true, false, false])] okX1_run rfl ⟨_, _, _, rfl⟩ H
set_option maxRecDepth 20000 in
theorem sX1_run_78 {d : Nat} {R : AR} {h : AH} {x1 : Int}
    (H : (x1 < 0 → Call wdC d mX3_add [vR 40, vI 61] h (rV fun h13 => Call wdC d mX1_putPiece [vR 33] h13 (rV fun h14 => R none h14))) ∧ (¬ (x1 < 0) → Call wdC d mX3_get [vR 34, vI x1] h (rI fun v16 h15 => Call wdC d mX1_writeClosing [vR 33, vI v16] h15 (rV fun h17 => Call wdC d mX1_putPiece [vR 33] h17 (rV fun h18 => Call wdC d mX1_operandsOf [vR 33, vI v16] h18 (rI fun v20 h19 => (v20 ≤ 0 → Call wdC d mX1_writeOpening [vR 33, vI v16] h19 (rV fun h21 => Call wdC d mX1_putPiece [vR 33] h21 (rV fun h22 => Call wdC d mX1_endOperand [vR 33] h22 (rV fun h23 => inR (x1 + (-1)) ∧ (At wdC (d + 1) mX1_run 78 [some (vR 33), some (vI (x1 + (-1))), none, none] [] h23 R))))) ∧ (¬ (v20 ≤ 0) → Call wdC d mX3_add [vR 36, vI v16] h19 (rV fun h24 => Call wdC d mX3_add [vR 38, vI v20] h24 (rV fun h25 => inR (x1 + (-1)) ∧ (At wdC (d + 1) mX1_run 78 [some (vR 33), some (vI (x1 + (-1))), none, none] [] h25 R)))))))))) : At wdC (d + 1) mX1_run 78 [some (vR 33), some (vI x1), none, none] [] h R :=
  At.wp 400 kX1_run [(32, [true, true, false, false]), (78, [true, true, false, false])] okX1_run rfl ⟨_, _, _, rfl⟩ H
set_option maxRecDepth 20000 in
theorem sX1_putPiece {d : Nat} {R : AR} {h : AH} 
    (H : Call wdC d mX3_size [vR 40] h (rI fun v2 h1 => inR (v2 - 1) ∧ (At wdC (d + 1) mX1_putPiece 10 [some (vR 33), some (vI (v2 - 1)), none] [] h1 R))) : At wdC (d + 1) mX1_putPiece 0 [some (vR 33), none, none] [] h R :=
  At.wp 400 kX1_putPiece [(10, [true, true, false])] okX1_putPiece rfl ⟨_, _, _, rfl⟩ H
set_option maxRecDepth 20000 in
theorem sX1_putPiece_10 {d : Nat} {R : AR} {h : AH} {x1 : Int}
    (H : (x1 < 0 → Call wdC d mX3_clear [vR 40] h (rV fun h3 => R none h3)) ∧ (¬ (x1 < 0) → inR ((gS h 33 10) - 1) ∧ ((((gS h 33 10) - 1) < 0 → inR (x1 + (-1)) ∧ (At wdC (d + 1) mX1_putPiece 10 [some (vR 33), some (vI (x1 + (-1))), none] [] h R)) ∧ (¬ (((gS h 33 10) - 1) < 0) → (4510 ≤ ((gS h 33 10) - 1) → inR (x1 + (-1)) ∧ (At wdC (d + 1) mX1_putPiece 10 [some (vR 33), some (vI (x1 + (-1))), none] [] h R)) ∧ (¬ (4510 ≤ ((gS h 33 10) - 1)) → Call wdC d mX3_get [vR 40, vI x1] h (rI fun v5 h4 => (0 ≤ ((gS h 33 10) - 1) ∧ ((gS h 33 10) - 1) < 4510) ∧ (inR (x1 + (-1)) ∧ (At wdC (d + 1) mX1_putPiece 10 [some (vR 33), some (vI (x1 + (-1))), none] [] (pS (pA h4 44 ((gS h 33 10) - 1).toNat v5) 33 10 ((gS h 33 10) - 1)) R)))))))) : At wdC (d + 1) mX1_putPiece 10 [some (vR 33), some (vI x1), none] [] h R :=
  At.wp 400 kX1_putPiece [(10, [true, true, false])] okX1_putPiece rfl ⟨_, _, _, rfl⟩ H
set_option maxRecDepth 20000 in
theorem sX1_endOperand {d : Nat} {R : AR} {h : AH} 
    (H : Call wdC d mX3_size [vR 36] h (rI fun v2 h1 => At wdC (d + 1) mX1_endOperand 8 [some (vR 33), some (vI v2), none, none] [] h1 R)) : At wdC (d + 1) mX1_endOperand 0 [some (vR 33), none, none, none] [] h R :=
  At.wp 400 kX1_endOperand [(8, [true, true, false, false])] okX1_endOperand rfl ⟨_, _, _, rfl⟩ H
set_option maxRecDepth 20000 in
theorem sX1_endOperand_8 {d : Nat} {R : AR} {h : AH} {x1 : Int}
    (H : (x1 ≤ 0 → R none h) ∧ (¬ (x1 ≤ 0) → Call wdC d mX3_last [vR 38] h (rI fun v4 h3 => inR (v4 - 1) ∧ (Call wdC d mX3_last [vR 36] h3 (rI fun v6 h5 => ((v4 - 1) ≤ 0 → Call wdC d mX3_dropLast [vR 36] h5 (rV fun h7 => Call wdC d mX3_dropLast [vR 38] h7 (rV fun h8 => Call wdC d mX1_writeOpening [vR 33, vI v6] h8 (rV fun h9 => Call wdC d mX1_putPiece [vR 33] h9 (rV fun h10 => inR (x1 + (-1)) ∧ (At wdC (d + 1) mX1_endOperand 8 [some (vR 33), some (vI (x1 + (-1))), none, none] [] h10 R)))))) ∧ (¬ ((v4 - 1) ≤ 0) → Call wdC d mX3_changeLast [vR 38, vI (v4 - 1)] h5 (rV fun h11 => Call wdC d mX1_writeBetween [vR 33, vI v6, vI (v4 - 1)] h11 (rV fun h12 => Call wdC d mX1_putPiece [vR 33] h12 (rV fun h13 => R none h13))))))))) : At wdC (d + 1) mX1_endOperand 8 [some (vR 33), some (vI x1), none, none] [] h R :=
  At.wp 400 kX1_endOperand [(8, [true, true, false, false])] okX1_endOperand rfl ⟨_, _, _, rfl⟩ H
set_option maxRecDepth 20000 in
theorem sX1_operandsOf {d : Nat} {R : AR} {h : AH} {x1 : Int}
    (H : Call wdC d mX3_get [vR 7, vI x1] h (rI fun v2 h1 => Call wdC d mX7_xOf [vI v2] h1 (rI fun v4 h3 => Call wdC d mX3_get [vR 7, vI x1] h3 (rI fun v6 h5 => Call wdC d mX7_kindOf [vI v6] h5 (rI fun v8 h7 => (v8 < 8 ∨ 11 < v8 → R (some (vI 0)) h7) ∧ (v8 = 8 → inR (x1 + 1) ∧ (Call wdC d mX3_get [vR 7, vI (x1 + 1)] h7 (rI fun v10 h9 => inR (v4 * v10) ∧ (R (some (vI (v4 * v10))) h9)))) ∧ (v8 = 9 → (11 < v4 → R (some (vI 1)) h7) ∧ (¬ (11 < v4) → R (some (vI 2)) h7)) ∧ (v8 = 10 → (64 : Int) ≠ 0 ∧ (R (some (vI (Int.tmod v4 64))) h7)) ∧ (v8 = 11 → R (some (vI v4)) h7) ∧ True))))) : At wdC (d + 1) mX1_operandsOf 0 [some (vR 33), some (vI x1), none] [] h R :=
  At.wp 400 kX1_operandsOf [] okX1_operandsOf rfl ⟨_, _, _, rfl⟩ H
set_option maxRecDepth 20000 in
theorem sX1_writeClosing {d : Nat} {R : AR} {h : AH} {x1 : Int}
    (H : Call wdC d mX3_get [vR 7, vI x1] h (rI fun v2 h1 => Call wdC d mX7_xOf [vI v2] h1 (rI fun v4 h3 => Call wdC d mX3_get [vR 7, vI x1] h3 (rI fun v6 h5 => Call wdC d mX7_kindOf [vI v6] h5 (rI fun v8 h7 => (v8 < 8 ∨ 11 < v8 → R none h7) ∧ (v8 = 8 → Call wdC d mX3_add [vR 40, vI 125] h7 (rV fun h9 => R none h9)) ∧ (v8 = 9 → (v4 ≠ 15 → (v4 ≠ 12 → Call wdC d mX3_addText [vR 40, vR 1002] h7 (rV fun h10 => R none h10)) ∧ (¬ (v4 ≠ 12) → Call wdC d mX3_addText [vR 40, vR 1001] h7 (rV fun h11 => R none h11))) ∧ (¬ (v4 ≠ 15) → Call wdC d mX3_addText [vR 40, vR 1000] h7 (rV fun h12 => R none h12))) ∧ (v8 = 10 → Call wdC d mX3_add [vR 40, vI 41] h7 (rV fun h13 => R none h13)) ∧ (v8 = 11 → Call wdC d mX3_add [vR 40, vI 41] h7 (rV fun h14 => R none h14)) ∧ True))))) : At wdC (d + 1) mX1_writeClosing 0 [some (vR 33), some (vI x1), none] [] h R :=
  At.wp 400 kX1_writeClosing [] okX1_writeClosing rfl ⟨_, _, _, rfl⟩ H
set_option maxRecDepth 20000 in
theorem sX1_writeBetween {d : Nat} {R : AR} {h : AH} {x1 : Int} {x2 : Int}
    (H : Call wdC d mX3_get [vR 7, vI x1] h (rI fun v2 h1 => Call wdC d mX7_kindOf [vI v2] h1 (rI fun v4 h3 => (v4 ≠ 9 → Call wdC d mX7_kindOf [vI v2] h3 (rI fun v6 h5 => (v6 ≠ 8 → ((0 : Int) ≤ 0 → Call wdC d mX3_add [vR 40, vI 44] h5 (rV fun h7 => R none h7)) ∧ (¬ ((0 : Int) ≤ 0) → (0 : Int) ≠ 0 ∧ (((Int.tmod x2 0) ≠ 0 → Call wdC d mX3_add [vR 40, vI 44] h5 (rV fun h8 => R none h8)) ∧ (¬ ((Int.tmod x2 0) ≠ 0) → Call wdC d mX3_add [vR 40, vI 59] h5 (rV fun h9 => R none h9))))) ∧ (¬ (v6 ≠ 8) → inR (x1 + 1) ∧ (Call wdC d mX3_get [vR 7, vI (x1 + 1)] h5 (rI fun v11 h10 => (v11 ≤ 0 → Call wdC d mX3_add [vR 40, vI 44] h10 (rV fun h12 => R none h12)) ∧ (¬ (v11 ≤ 0) → (v11 : Int) ≠ 0 ∧ (((Int.tmod x2 v11) ≠ 0 → Call wdC d mX3_add [vR 40, vI 44] h10 (rV fun h13 => R none h13)) ∧ (¬ ((Int.tmod x2 v11) ≠ 0) → Call wdC d mX3_add [vR 40, vI 59] h10 (rV fun h14 => R none h14))))))))) ∧ (¬ (v4 ≠ 9) → Call wdC d mX7_xOf [vI v2] h3 (rI fun v16 h15 => Call wdC d mX7_operationText [vI v16] h15 (rR fun q18 h17 => Call wdC d mX3_addText [vR 40, vR q18] h17 (rV fun h19 => R none h19))))))) : At wdC (d + 1) mX1_writeBetween 0 [some (vR 33), some (vI x1), some (vI x2), none, none] [] h R :=
  At.wp 400 kX1_writeBetween [] okX1_writeBetween rfl ⟨_, _, _, rfl⟩ H
set_option maxRecDepth 20000 in
theorem sX1_writeOpening {d : Nat} {R : AR} {h : AH} {x1 : Int}
    (H : Call wdC d mX3_get [vR 7, vI x1] h (rI fun v2 h1 => Call wdC d mX7_xOf [vI v2] h1 (rI fun v4 h3 => Call wdC d mX3_get [vR 7, vI x1] h3 (rI fun v6 h5 => Call wdC d mX7_kindOf [vI v6] h5 (rI fun v8 h7 => (v8 < 0 ∨ 11 < v8 → R none h7) ∧ (v8 = 0 → Call wdC d mX1_writeNumber [vR 33, vI x1, vI v4] h7 (rV fun h9 => R none h9)) ∧ (v8 = 1 → Call wdC d mX1_writeString [vR 33, vI x1, vI v4] h7 (rV fun h10 => R none h10)) ∧ (v8 = 2 → (v4 ≠ 1 → Call wdC d mX3_addText [vR 40, vR 1009] h7 (rV fun h11 => R none h11)) ∧ (¬ (v4 ≠ 1) → Call wdC d mX3_addText [vR 40, vR 1008] h7 (rV fun h12 => R none h12))) ∧ (v8 = 3 → Call wdC d mX7_errorText [vI v4] h7 (rR fun q14 h13 => Call wdC d mX3_addText [vR 40, vR q14] h13 (rV fun h15 => R none h15))) ∧ (v8 = 4 → inR (x1 + 1) ∧ (Call wdC d mX3_get [vR 7, vI (x1 + 1)] h7 (rI fun v17 h16 => Call wdC d mX1_writeSheet [vR 33, vI v17] h16 (rV fun h18 => inR (x1 + 3) ∧ (Call wdC d mX3_get [vR 7, vI (x1 + 3)] h18 (rI fun v20 h19 => Call wdC d mX1_writeColumn [vR 33, vI (andI v4 1), vI v20] h19 (rV fun h21 => inR (x1 + 2) ∧ (Call wdC d mX3_get [vR 7, vI (x1 + 2)] h21 (rI fun v23 h22 => Call wdC d mX1_writeRow [vR 33, vI (andI v4 2), vI v23] h22 (rV fun h24 => R none h24)))))))))) ∧ (v8 = 5 → Call wdC d mX1_writeRange [vR 33, vI x1, vI v4] h7 (rV fun h25 => R none h25)) ∧ (v8 = 6 → Call wdC d mX1_writeName [vR 33, vI v4] h7 (rV fun h26 => R none h26)) ∧ (v8 = 7 → R none h7) ∧ (v8 = 8 → Call wdC d mX3_add [vR 40, vI 123] h7 (rV fun h27 => R none h27)) ∧ (v8 = 9 → (v4 = 13 → Call wdC d mX7_operationText [vI v4] h7 (rR fun q29 h28 => Call wdC d mX3_addText [vR 40, vR q29] h28 (rV fun h30 => R none h30))) ∧ (¬ (v4 = 13) → (v4 = 14 → Call wdC d mX7_operationText [vI v4] h7 (rR fun q32 h31 => Call wdC d mX3_addText [vR 40, vR q32] h31 (rV fun h33 => R none h33))) ∧ (¬ (v4 = 14) → (v4 ≠ 15 → Call wdC d mX3_addText [vR 40, vR 1002] h7 (rV fun h34 => R none h34)) ∧ (¬ (v4 ≠ 15) → Call wdC d mX7_operationText [vI v4] h7 (rR fun q36 h35 => Call wdC d mX3_addText [vR 40, vR q36] h35 (rV fun h37 => R none h37)))))) ∧ (v8 = 10 → ((64 : Int) ≠ 0 ∧ inR (Int.tdiv v4 64)) ∧ (Call wdC d mX1_writeFunction [vR 33, vI (Int.tdiv v4 64)] h7 (rV fun h38 => R none h38))) ∧ (v8 = 11 → inR (x1 + 1) ∧ (Call wdC d mX3_get [vR 7, vI (x1 + 1)] h7 (rI fun v40 h39 => Call wdC d mX1_writeName [vR 33, vI v40] h39 (rV fun h41 => Call wdC d mX3_add [vR 40, vI 40] h41 (rV fun h42 => R none h42))))) ∧ True))))) : At wdC (d + 1) mX1_writeOpening 0 [some (vR 33), some (vI x1), none] [] h R :=
  At.wp 400 kX1_writeOpening [] okX1_writeOpening rfl ⟨_, _, _, rfl⟩ H
set_option maxRecDepth 20000 in
theorem sX1_writeFunction {d : Nat} {R : AR} {h : AH} {x1 : Int}
    (H : (x1 < 0 → Call wdC d mX3_add [vR 40, vI 40] h (rV fun h1 => R none h1)) ∧ (¬ (x1 < 0) → (133 ≤ x1 → Call wdC d mX3_add [vR 40, vI 40] h (rV fun h2 => R none h2)) ∧ (¬ (133 ≤ x1) → (0 ≤ x1 ∧ x1 < 133) ∧ (ob (isEn (2000 + x1.toNat)) (Call wdC d mX3_addText [vR 40, vR (1000 + efS (2000 + x1.toNat - 2000))] h (rV fun h3 => Call wdC d mX3_add [vR 40, vI 40] h3 (rV fun h4 => R none h4))))))) : At wdC (d + 1) mX1_writeFunction 0 [some (vR 33), some (vI x1)] [] h R :=
  At.wp 400 kX1_writeFunction [] okX1_writeFunction rfl ⟨_, _, _, rfl⟩ H
set_option maxRecDepth 20000 in
theorem sX1_writeName {d : Nat} {R : AR} {h : AH} {x1 : Int}
    (H : At wdC (d + 1) mX1_writeName 2 [some (vR 33), some (vI x1), some (vI 0)] [] h R) : At wdC (d + 1) mX1_writeName 0 [some (vR 33), some (vI x1), none] [] h R :=
  At.wp 400 kX1_writeName [(2, [true, true, true])] okX1_writeName rfl ⟨_, _, _, rfl⟩ H
set_option maxRecDepth 20000 in
theorem sX1_writeName_2 {d : Nat} {R : AR} {h : AH} {x1 : Int} {x2 : Int}
    (H : Call wdC d mX6_length [vR 16, vI x1] h (rI fun v2 h1 => (v2 ≤ x2 → R none h1) ∧ (¬ (v2 ≤ x2) → Call wdC d mX6_letter [vR 16, vI x1, vI x2] h1 (rI fun v4 h3 => Call wdC d mX3_add [vR 40, vI v4] h3 (rV fun h5 => inR (x2 + 1) ∧ (At wdC (d + 1) mX1_writeName 2 [some (vR 33), some (vI x1), some (vI (x2 + 1))] [] h5 R)))))) : At wdC (d + 1) mX1_writeName 2 [some (vR 33), some (vI x1), some (vI x2)] [] h R :=
  At.wp 400 kX1_writeName [(2, [true, true, true])] okX1_writeName rfl ⟨_, _, _, rfl⟩ H
set_option maxRecDepth 20000 in
theorem sX1_writeString {d : Nat} {R : AR} {h : AH} {x1 : Int} {x2 : Int}
    (H : Call wdC d mX3_add [vR 40, vI 34] h (rV fun h1 => At wdC (d + 1) mX1_writeString 11 [some (vR 33), some (vI x1), some (vI x2), some (vI 0), none] [] h1 R)) : At wdC (d + 1) mX1_writeString 0 [some (vR 33), some (vI x1), some (vI x2), none, none] [] h R :=
  At.wp 400 kX1_writeString [(11, [true, true, true, true, false])] okX1_writeString rfl ⟨_, _, _, rfl⟩ H
set_option maxRecDepth 20000 in
theorem sX1_writeString_11 {d : Nat} {R : AR} {h : AH} {x1 : Int} {x2 : Int} {x3 : Int}
    (H : (x2 ≤ x3 → Call wdC d mX3_add [vR 40, vI 34] h (rV fun h2 => R none h2)) ∧ (¬ (x2 ≤ x3) → inR (x1 + 1) ∧ (((4 : Int) ≠ 0 ∧ inR (Int.tdiv x3 4)) ∧ (inR ((x1 + 1) + (Int.tdiv x3 4)) ∧ (Call wdC d mX3_get [vR 7, vI ((x1 + 1) + (Int.tdiv x3 4))] h (rI fun v4 h3 => (4 : Int) ≠ 0 ∧ (inR ((Int.tmod x3 4) * 8) ∧ (inR (24 - ((Int.tmod x3 4) * 8)) ∧ (Call wdC d mX3_add [vR 40, vI (andI (shrI v4 (24 - ((Int.tmod x3 4) * 8))) 255)] h3 (rV fun h5 => ((andI (shrI v4 (24 - ((Int.tmod x3 4) * 8))) 255) ≠ 34 → inR (x3 + 1) ∧ (At wdC (d + 1) mX1_writeString 11 [some (vR 33), some (vI x1), some (vI x2), some (vI (x3 + 1)), none] [] h5 R)) ∧ (¬ ((andI (shrI v4 (24 - ((Int.tmod x3 4) * 8))) 255) ≠ 34) → Call wdC d mX3_add [vR 40, vI (andI (shrI v4 (24 - ((Int.tmod x3 4) * 8))) 255)] h5 (rV fun h6 => inR (x3 + 1) ∧ (At wdC (d + 1) mX1_writeString 11 [some (vR 33), some (vI x1), some (vI x2), some (vI (x3 + 1)), none] [] h6 R))))))))))))) : At wdC (d + 1) mX1_writeString 11 [some (vR 33), some (vI x1), some (vI x2), some (vI x3), none] [] h R :=
  At.wp 400 kX1_writeString [(11, [true, true, true, true, false])] okX1_writeString rfl ⟨_, _, _, rfl⟩ H
set_option maxRecDepth 20000 in
theorem sX1_writeSheet {d : Nat} {R : AR} {h : AH} {x1 : Int}
    (H : (x1 ≠ (-1) → Call wdC d mX3_get [vR 5, vI x1] h (rI fun v2 h1 => (v2 ≠ 1 → ((0 : Int) = 0 → Call wdC d mX3_addText [vR 40, vR 1002] h1 (rV fun h3 => At wdC (d + 1) mX1_writeSheet 44 [some (vR 33), some (vI x1), some (vI 0), some (vI 0), none] [] h3 R)) ∧ (¬ ((0 : Int) = 0) → Call wdC d mX3_addText [vR 40, vR 1018] h1 (rV fun h4 => At wdC (d + 1) mX1_writeSheet 44 [some (vR 33), some (vI x1), some (vI 0), some (vI 0), none] [] h4 R))) ∧ (¬ (v2 ≠ 1) → ((1 : Int) = 0 → Call wdC d mX3_addText [vR 40, vR 1002] h1 (rV fun h5 => At wdC (d + 1) mX1_writeSheet 44 [some (vR 33), some (vI x1), some (vI 1), some (vI 0), none] [] h5 R)) ∧ (¬ ((1 : Int) = 0) → Call wdC d mX3_addText [vR 40, vR 1018] h1 (rV fun h6 => At wdC (d + 1) mX1_writeSheet 44 [some (vR 33), some (vI x1), some (vI 1), some (vI 0), none] [] h6 R))))) ∧ (¬ (x1 ≠ (-1)) → R none h)) : At wdC (d + 1) mX1_writeSheet 0 [some (vR 33), some (vI x1), none, none, none] [] h R :=
  At.wp 400 kX1_writeSheet [(44, [true, true, true, true, false])] okX1_writeSheet rfl ⟨_, _, _, rfl⟩ H
set_option maxRecDepth 20000 in
theorem sX1_writeSheet_44 {d : Nat} {R : AR} {h : AH} {x1 : Int} {x2 : Int} {x3 : Int}
    (H : Call wdC d mX6_length [vR 11, vI x1] h (rI fun v8 h7 => (v8 ≤ x3 → (x2 = 0 → Call wdC d mX3_addText [vR 40, vR 1020] h7 (rV fun h9 => R none h9)) ∧ (¬ (x2 = 0) → Call wdC d mX3_addText [vR 40, vR 1019] h7 (rV fun h10 => R none h10))) ∧ (¬ (v8 ≤ x3) → Call wdC d mX6_letter [vR 11, vI x1, vI x3] h7 (rI fun v12 h11 => Call wdC d mX3_add [vR 40, vI v12] h11 (rV fun h13 => (v12 ≠ 39 → inR (x3 + 1) ∧ (At wdC (d + 1) mX1_writeSheet 44 [some (vR 33), some (vI x1), some (vI x2), some (vI (x3 + 1)), none] [] h13 R)) ∧ (¬ (v12 ≠ 39) → Call wdC d mX3_add [vR 40, vI v12] h13 (rV fun h14 => inR (x3 + 1) ∧ (At wdC (d + 1) mX1_writeSheet 44 [some (vR 33), some (vI x1), some (vI x2), some (vI (x3 + 1)), none] [] h14 R)))))))) : At wdC (d + 1) mX1_writeSheet 44 [some (vR 33), some (vI x1), some (vI x2), some (vI x3), none] [] h R :=
  At.wp 400 kX1_writeSheet [(44, [true, true, true, true, false])] okX1_writeSheet rfl ⟨_, _, _, rfl⟩ H
set_option maxRecDepth 20000 in
theorem sX1_writeColumn {d : Nat} {R : AR} {h : AH} {x1 : Int} {x2 : Int}
    (H : (x1 = 0 → Call wdC d mX3_addText [vR 40, vR 1002] h (rV fun h1 => inR (x2 - 1) ∧ (((x2 - 1) < 702 → ((x2 - 1) < 26 → (26 : Int) ≠ 0 ∧ (inR (65 + (Int.tmod (x2 - 1) 26)) ∧ (Call wdC d mX3_add [vR 40, vI (65 + (Int.tmod (x2 - 1) 26))] h1 (rV fun h2 => R none h2)))) ∧ (¬ ((x2 - 1) < 26) → inR ((x2 - 1) - 26) ∧ (((26 : Int) ≠ 0 ∧ inR (Int.tdiv ((x2 - 1) - 26) 26)) ∧ ((26 : Int) ≠ 0 ∧ (inR (65 + (Int.tmod (Int.tdiv ((x2 - 1) - 26) 26) 26)) ∧ (Call wdC d mX3_add [vR 40, vI (65 + (Int.tmod (Int.tdiv ((x2 - 1) - 26) 26) 26))] h1 (rV fun h3 => (26 : Int) ≠ 0 ∧ (inR (65 + (Int.tmod (x2 - 1) 26)) ∧ (Call wdC d mX3_add [vR 40, vI (65 + (Int.tmod (x2 - 1) 26))] h3 (rV fun h4 => R none h4)))))))))) ∧ (¬ ((x2 - 1) < 702) → inR ((x2 - 1) - 702) ∧ (((676 : Int) ≠ 0 ∧ inR (Int.tdiv ((x2 - 1) - 702) 676)) ∧ (inR (65 + (Int.tdiv ((x2 - 1) - 702) 676)) ∧ (Call wdC d mX3_add [vR 40, vI (65 + (Int.tdiv ((x2 - 1) - 702) 676))] h1 (rV fun h5 => ((x2 - 1) < 26 → (26 : Int) ≠ 0 ∧ (inR (65 + (Int.tmod (x2 - 1) 26)) ∧ (Call wdC d mX3_add [vR 40, vI (65 + (Int.tmod (x2 - 1) 26))] h5 (rV fun h6 => R none h6)))) ∧ (¬ ((x2 - 1) < 26) → inR ((x2 - 1) - 26) ∧ (((26 : Int) ≠ 0 ∧ inR (Int.tdiv ((x2 - 1) - 26) 26)) ∧ ((26 : Int) ≠ 0 ∧ (inR (65 + (Int.tmod (Int.tdiv ((x2 - 1) - 26) 26) 26)) ∧ (Call wdC d mX3_add [vR 40, vI (65 + (Int.tmod (Int.tdiv ((x2 - 1) - 26) 26) 26))] h5 (rV fun h7 => (26 : Int) ≠ 0 ∧ (inR (65 + (Int.tmod (x2 - 1) 26)) ∧ (Call wdC d mX3_add [vR 40, vI (65 + (Int.tmod (x2 - 1) 26))] h7 (rV fun h8 => R none h8))))))))))))))))) ∧ (¬ (x1 = 0) → Call wdC d mX3_addText [vR 40, vR 1021] h (rV fun h9 => inR (x2 - 1) ∧ (((x2 - 1) < 702 → ((x2 - 1) < 26 → (26 : Int) ≠ 0 ∧ (inR (65 + (Int.tmod (x2 - 1) 26)) ∧ (Call wdC d mX3_add [vR 40, vI (65 + (Int.tmod (x2 - 1) 26))] h9 (rV fun h10 => R none h10)))) ∧ (¬ ((x2 - 1) < 26) → inR ((x2 - 1) - 26) ∧ (((26 : Int) ≠ 0 ∧ inR (Int.tdiv ((x2 - 1) - 26) 26)) ∧ ((26 : Int) ≠ 0 ∧ (inR (65 + (Int.tmod (Int.tdiv ((x2 - 1) - 26) 26) 26)) ∧ (Call wdC d mX3_add [vR 40, vI (65 + (Int.tmod (Int.tdiv ((x2 - 1) - 26) 26) 26))] h9 (rV fun h11 => (26 : Int) ≠ 0 ∧ (inR (65 + (Int.tmod (x2 - 1) 26)) ∧ (Call wdC d mX3_add [vR 40, vI (65 + (Int.tmod (x2 - 1) 26))] h11 (rV fun h12 => R none h12)))))))))) ∧ (¬ ((x2 - 1) < 702) → inR ((x2 - 1) - 702) ∧ (((676 : Int) ≠ 0 ∧ inR (Int.tdiv ((x2 - 1) - 702) 676)) ∧ (inR (65 + (Int.tdiv ((x2 - 1) - 702) 676)) ∧ (Call wdC d mX3_add [vR 40, vI (65 + (Int.tdiv ((x2 - 1) - 702) 676))] h9 (rV fun h13 => ((x2 - 1) < 26 → (26 : Int) ≠ 0 ∧ (inR (65 + (Int.tmod (x2 - 1) 26)) ∧ (Call wdC d mX3_add [vR 40, vI (65 + (Int.tmod (x2 - 1) 26))] h13 (rV fun h14 => R none h14)))) ∧ (¬ ((x2 - 1) < 26) → inR ((x2 - 1) - 26) ∧ (((26 : Int) ≠ 0 ∧ inR (Int.tdiv ((x2 - 1) - 26) 26)) ∧ ((26 : Int) ≠ 0 ∧ (inR (65 + (Int.tmod (Int.tdiv ((x2 - 1) - 26) 26) 26)) ∧ (Call wdC d mX3_add [vR 40, vI (65 + (Int.tmod (Int.tdiv ((x2 - 1) - 26) 26) 26))] h13 (rV fun h15 => (26 : Int) ≠ 0 ∧ (inR (65 + (Int.tmod (x2 - 1) 26)) ∧ (Call wdC d mX3_add [vR 40, vI (65 + (Int.tmod (x2 - 1) 26))] h15 (rV fun h16 => R none h16)))))))))))))))))) : At wdC (d + 1) mX1_writeColumn 0 [some (vR 33), some (vI x1), some (vI x2), none] [] h R :=
  At.wp 400 kX1_writeColumn [] okX1_writeColumn rfl ⟨_, _, _, rfl⟩ H
set_option maxRecDepth 20000 in
theorem sX1_writeRow {d : Nat} {R : AR} {h : AH} {x1 : Int} {x2 : Int}
    (H : (x1 = 0 → Call wdC d mX3_addText [vR 40, vR 1002] h (rV fun h1 => Call wdC d mX3_addDecimal [vR 40, vI x2] h1 (rV fun h2 => R none h2))) ∧ (¬ (x1 = 0) → Call wdC d mX3_addText [vR 40, vR 1021] h (rV fun h3 => Call wdC d mX3_addDecimal [vR 40, vI x2] h3 (rV fun h4 => R none h4)))) : At wdC (d + 1) mX1_writeRow 0 [some (vR 33), some (vI x1), some (vI x2)] [] h R :=
  At.wp 400 kX1_writeRow [] okX1_writeRow rfl ⟨_, _, _, rfl⟩ H
set_option maxRecDepth 20000 in
theorem sX1_writeRange {d : Nat} {R : AR} {h : AH} {x1 : Int} {x2 : Int}
    (H : inR (x1 + 1) ∧ (Call wdC d mX3_get [vR 7, vI (x1 + 1)] h (rI fun v2 h1 => Call wdC d mX1_writeSheet [vR 33, vI v2] h1 (rV fun h3 => ((andI x2 32) ≠ 0 → ((andI x2 16) ≠ 0 → Call wdC d mX3_add [vR 40, vI 58] h3 (rV fun h4 => ((andI x2 32) ≠ 0 → ((andI x2 16) ≠ 0 → R none h4) ∧ (¬ ((andI x2 16) ≠ 0) → inR (x1 + 4) ∧ (Call wdC d mX3_get [vR 7, vI (x1 + 4)] h4 (rI fun v6 h5 => Call wdC d mX1_writeRow [vR 33, vI (andI x2 8), vI v6] h5 (rV fun h7 => R none h7))))) ∧ (¬ ((andI x2 32) ≠ 0) → inR (x1 + 5) ∧ (Call wdC d mX3_get [vR 7, vI (x1 + 5)] h4 (rI fun v9 h8 => Call wdC d mX1_writeColumn [vR 33, vI (andI x2 4), vI v9] h8 (rV fun h10 => ((andI x2 16) ≠ 0 → R none h10) ∧ (¬ ((andI x2 16) ≠ 0) → inR (x1 + 4) ∧ (Call wdC d mX3_get [vR 7, vI (x1 + 4)] h10 (rI fun v12 h11 => Call wdC d mX1_writeRow [vR 33, vI (andI x2 8), vI v12] h11 (rV fun h13 => R none h13)))))))))) ∧ (¬ ((andI x2 16) ≠ 0) → inR (x1 + 2) ∧ (Call wdC d mX3_get [vR 7, vI (x1 + 2)] h3 (rI fun v15 h14 => Call wdC d mX1_writeRow [vR 33, vI (andI x2 2), vI v15] h14 (rV fun h16 => Call wdC d mX3_add [vR 40, vI 58] h16 (rV fun h17 => ((andI x2 32) ≠ 0 → ((andI x2 16) ≠ 0 → R none h17) ∧ (¬ ((andI x2 16) ≠ 0) → inR (x1 + 4) ∧ (Call wdC d mX3_get [vR 7, vI (x1 + 4)] h17 (rI fun v19 h18 => Call wdC d mX1_writeRow [vR 33, vI (andI x2 8), vI v19] h18 (rV fun h20 => R none h20))))) ∧ (¬ ((andI x2 32) ≠ 0) → inR (x1 + 5) ∧ (Call wdC d mX3_get [vR 7, vI (x1 + 5)] h17 (rI fun v22 h21 => Call wdC d mX1_writeColumn [vR 33, vI (andI x2 4), vI v22] h21 (rV fun h23 => ((andI x2 16) ≠ 0 → R none h23) ∧ (¬ ((andI x2 16) ≠ 0) → inR (x1 + 4) ∧ (Call wdC d mX3_get [vR 7, vI (x1 + 4)] h23 (rI fun v25 h24 => Call wdC d mX1_writeRow [vR 33, vI (andI x2 8), vI v25] h24 (rV fun h26 => R none h26)))))))))))))) ∧ (¬ ((andI x2 32) ≠ 0) → inR (x1 + 3) ∧ (Call wdC d mX3_get [vR 7, vI (x1 + 3)] h3 (rI fun v28 h27 => Call wdC d mX1_writeColumn [vR 33, vI (andI x2 1), vI v28] h27 (rV fun h29 => ((andI x2 16) ≠ 0 → Call wdC d mX3_add [vR 40, vI 58] h29 (rV fun h30 => ((andI x2 32) ≠ 0 → ((andI x2 16) ≠ 0 → R none h30) ∧ (¬ ((andI x2 16) ≠ 0) → inR (x1 + 4) ∧ (Call wdC d mX3_get [vR 7, vI (x1 + 4)] h30 (rI fun v32 h31 => Call wdC d mX1_writeRow [vR 33, vI (andI x2 8), vI v32] h31 (rV fun h33 => R none h33))))) ∧ (¬ ((andI x2 32) ≠ 0) → inR (x1 + 5) ∧ (Call wdC d mX3_get [vR 7, vI (x1 + 5)] h30 (rI fun v35 h34 => Call wdC d mX1_writeColumn [vR 33, vI (andI x2 4), vI v35] h34 (rV fun h36 => ((andI x2 16) ≠ 0 → R none h36) ∧ (¬ ((andI x2 16) ≠ 0) → inR (x1 + 4) ∧ (Call wdC d mX3_get [vR 7, vI (x1 + 4)] h36 (rI fun v38 h37 => Call wdC d mX1_writeRow [vR 33, vI (andI x2 8), vI v38] h37 (rV fun h39 => R none h39)))))))))) ∧ (¬ ((andI x2 16) ≠ 0) → inR (x1 + 2) ∧ (Call wdC d mX3_get [vR 7, vI (x1 + 2)] h29 (rI fun v41 h40 => Call wdC d mX1_writeRow [vR 33, vI (andI x2 2), vI v41] h40 (rV fun h42 => Call wdC d mX3_add [vR 40, vI 58] h42 (rV fun h43 => ((andI x2 32) ≠ 0 → ((andI x2 16) ≠ 0 → R none h43) ∧ (¬ ((andI x2 16) ≠ 0) → inR (x1 + 4) ∧ (Call wdC d mX3_get [vR 7, vI (x1 + 4)] h43 (rI fun v45 h44 => Call wdC d mX1_writeRow [vR 33, vI (andI x2 8), vI v45] h44 (rV fun h46 => R none h46))))) ∧ (¬ ((andI x2 32) ≠ 0) → inR (x1 + 5) ∧ (Call wdC d mX3_get [vR 7, vI (x1 + 5)] h43 (rI fun v48 h47 => Call wdC d mX1_writeColumn [vR 33, vI (andI x2 4), vI v48] h47 (rV fun h49 => ((andI x2 16) ≠ 0 → R none h49) ∧ (¬ ((andI x2 16) ≠ 0) → inR (x1 + 4) ∧ (Call wdC d mX3_get [vR 7, vI (x1 + 4)] h49 (rI fun v51 h50 => Call wdC d mX1_writeRow [vR 33, vI (andI x2 8), vI v51] h50 (rV fun h52 => R none h52))))))))))))))))))))) : At wdC (d + 1) mX1_writeRange 0 [some (vR 33), some (vI x1), some (vI x2)] [] h R :=
  At.wp 400 kX1_writeRange [] okX1_writeRange rfl ⟨_, _, _, rfl⟩ H
set_option maxRecDepth 20000 in
theorem sX1_writeNumber {d : Nat} {R : AR} {h : AH} {x1 : Int} {x2 : Int}
    (H : inR (x1 + 1) ∧ (Call wdC d mX3_get [vR 7, vI (x1 + 1)] h (rI fun v2 h1 => inR (x1 + 2) ∧ (Call wdC d mX3_get [vR 7, vI (x1 + 2)] h1 (rI fun v4 h3 => inJ ((shlJ v2 30) + v4) ∧ (Call wdC d mX1_takeDigits [vR 33, vJ ((shlJ v2 30) + v4)] h3 (rV fun h5 => inR (x1 + 3) ∧ (Call wdC d mX3_get [vR 7, vI (x1 + 3)] h5 (rI fun v7 h6 => Call wdC d mX3_size [vR 42] h6 (rI fun v9 h8 => inR (v7 + v9) ∧ (inR ((v7 + v9) - 1) ∧ ((x2 ≠ 1 → Call wdC d mX3_addText [vR 40, vR 1002] h8 (rV fun h10 => (((v7 + v9) - 1) < (-5) → Call wdC d mX1_writeWithExponent [vR 33, vI ((v7 + v9) - 1)] h10 (rV fun h11 => R none h11)) ∧ (¬ (((v7 + v9) - 1) < (-5)) → (((v7 + v9) - 1) ≤ 20 → (0 ≤ ((v7 + v9) - 1) → Call wdC d mX1_writeWithPoint [vR 33, vI ((v7 + v9) - 1)] h10 (rV fun h12 => R none h12)) ∧ (¬ (0 ≤ ((v7 + v9) - 1)) → Call wdC d mX3_addText [vR 40, vR 1007] h10 (rV fun h13 => At wdC (d + 1) mX1_writeNumber 106 [some (vR 33), none, none, some (vI ((v7 + v9) - 1)), some (vI (-1))] [] h13 R))) ∧ (¬ (((v7 + v9) - 1) ≤ 20) → Call wdC d mX1_writeWithExponent [vR 33, vI ((v7 + v9) - 1)] h10 (rV fun h14 => R none h14))))) ∧ (¬ (x2 ≠ 1) → Call wdC d mX3_addText [vR 40, vR 1003] h8 (rV fun h15 => (((v7 + v9) - 1) < (-5) → Call wdC d mX1_writeWithExponent [vR 33, vI ((v7 + v9) - 1)] h15 (rV fun h16 => R none h16)) ∧ (¬ (((v7 + v9) - 1) < (-5)) → (((v7 + v9) - 1) ≤ 20 → (0 ≤ ((v7 + v9) - 1) → Call wdC d mX1_writeWithPoint [vR 33, vI ((v7 + v9) - 1)] h15 (rV fun h17 => R none h17)) ∧ (¬ (0 ≤ ((v7 + v9) - 1)) → Call wdC d mX3_addText [vR 40, vR 1007] h15 (rV fun h18 => At wdC (d + 1) mX1_writeNumber 106 [some (vR 33), none, none, some (vI ((v7 + v9) - 1)), some (vI (-1))] [] h18 R))) ∧ (¬ (((v7 + v9) - 1) ≤ 20) → Call wdC d mX1_writeWithExponent [vR 33, vI ((v7 + v9) - 1)] h15 (rV fun h19 => R none h19))))))))))))))))) : At wdC (d + 1) mX1_writeNumber 0 [some (vR 33), some (vI x1), some (vI x2), none, none] [] h R :=
  At.wp 400 kX1_writeNumber [(106, [true, false, false, true, true])] okX1_writeNumber rfl ⟨_, _, _, rfl⟩ H
set_option maxRecDepth 20000 in
theorem sX1_writeNumber_106 {d : Nat} {R : AR} {h : AH} {x3 : Int} {x4 : Int}
    (H : (x4 ≤ x3 → Call wdC d mX1_writeDigits [vR 33, vI 0] h (rV fun h20 => R none h20)) ∧ (¬ (x4 ≤ x3) → Call wdC d mX3_add [vR 40, vI 48] h (rV fun h21 => inR (x4 + (-1)) ∧ (At wdC (d + 1) mX1_writeNumber 106 [some (vR 33), none, none, some (vI x3), some (vI (x4 + (-1)))] [] h21 R)))) : At wdC (d + 1) mX1_writeNumber 106 [some (vR 33), none, none, some (vI x3), some (vI x4)] [] h R :=
  At.wp 400 kX1_writeNumber [(106, [true, false, false, true, true])] okX1_writeNumber rfl ⟨_, _, _, rfl⟩ H
set_option maxRecDepth 20000 in
theorem sX1_takeDigits {d : Nat} {R : AR} {h : AH} {x1 : Int}
    (H : Call wdC d mX3_clear [vR 42] h (rV fun h1 => At wdC (d + 1) mX1_takeDigits 12 [some (vR 33), none, none, some (vJ x1), none, some (vI 0)] [] h1 R)) : At wdC (d + 1) mX1_takeDigits 0 [some (vR 33), some (vJ x1), none, none, none, none] [] h R :=
  At.wp 400 kX1_takeDigits [(12, [true, false, false, true, false, true])] okX1_takeDigits rfl ⟨_, _, _, rfl⟩ H
set_option maxRecDepth 20000 in
theorem sX1_takeDigits_12 {d : Nat} {R : AR} {h : AH} {x3 : Int} {x5 : Int}
    (H : (15 ≤ x5 → R none h) ∧ (¬ (15 ≤ x5) → (x5 = 0 → (10 : Int) ≠ 0 ∧ (inR (Int.tmod x3 10) ∧ (inR (48 + (Int.tmod x3 10)) ∧ (Call wdC d mX3_add [vR 42, vI (48 + (Int.tmod x3 10))] h (rV fun h2 => ((10 : Int) ≠ 0 ∧ inJ (Int.tdiv x3 10)) ∧ (inR (x5 + 1) ∧ (At wdC (d + 1) mX1_takeDigits 12 [some (vR 33), none, none, some (vJ (Int.tdiv x3 10)), none, some (vI (x5 + 1))] [] h2 R))))))) ∧ (¬ (x5 = 0) → ((cmpJ x3 0) ≤ 0 → R none h) ∧ (¬ ((cmpJ x3 0) ≤ 0) → (10 : Int) ≠ 0 ∧ (inR (Int.tmod x3 10) ∧ (inR (48 + (Int.tmod x3 10)) ∧ (Call wdC d mX3_add [vR 42, vI (48 + (Int.tmod x3 10))] h (rV fun h3 => ((10 : Int) ≠ 0 ∧ inJ (Int.tdiv x3 10)) ∧ (inR (x5 + 1) ∧ (At wdC (d + 1) mX1_takeDigits 12 [some (vR 33), none, none, some (vJ (Int.tdiv x3 10)), none, some (vI (x5 + 1))] [] h3 R)))))))))) : At wdC (d + 1) mX1_takeDigits 12 [some (vR 33), none, none, some (vJ x3), none, some (vI x5)] [] h R :=
  At.wp 400 kX1_takeDigits [(12, [true, false, false, true, false, true])] okX1_takeDigits rfl ⟨_, _, _, rfl⟩ H
set_option maxRecDepth 20000 in
theorem sX1_writeDigits {d : Nat} {R : AR} {h : AH} {x1 : Int}
    (H : Call wdC d mX3_size [vR 42] h (rI fun v2 h1 => inR (v2 - 1) ∧ (inR ((v2 - 1) - x1) ∧ (At wdC (d + 1) mX1_writeDigits 12 [some (vR 33), none, some (vI ((v2 - 1) - x1))] [] h1 R)))) : At wdC (d + 1) mX1_writeDigits 0 [some (vR 33), some (vI x1), none] [] h R :=
  At.wp 400 kX1_writeDigits [(12, [true, false, true])] okX1_writeDigits rfl ⟨_, _, _, rfl⟩ H
set_option maxRecDepth 20000 in
theorem sX1_writeDigits_12 {d : Nat} {R : AR} {h : AH} {x2 : Int}
    (H : (x2 < 0 → R none h) ∧ (¬ (x2 < 0) → Call wdC d mX3_get [vR 42, vI x2] h (rI fun v4 h3 => Call wdC d mX3_add [vR 40, vI v4] h3 (rV fun h5 => inR (x2 + (-1)) ∧ (At wdC (d + 1) mX1_writeDigits 12 [some (vR 33), none, some (vI (x2 + (-1)))] [] h5 R))))) : At wdC (d + 1) mX1_writeDigits 12 [some (vR 33), none, some (vI x2)] [] h R :=
  At.wp 400 kX1_writeDigits [(12, [true, false, true])] okX1_writeDigits rfl ⟨_, _, _, rfl⟩ H
set_option maxRecDepth 20000 in
theorem sX1_writeWithPoint {d : Nat} {R : AR} {h : AH} {x1 : Int}
    (H : At wdC (d + 1) mX1_writeWithPoint 2 [some (vR 33), some (vI x1), some (vI 0)] [] h R) : At wdC (d + 1) mX1_writeWithPoint 0 [some (vR 33), some (vI x1), none] [] h R :=
  At.wp 400 kX1_writeWithPoint [(2, [true, true, true])] okX1_writeWithPoint rfl ⟨_, _, _, rfl⟩ H
set_option maxRecDepth 20000 in
theorem sX1_writeWithPoint_2 {d : Nat} {R : AR} {h : AH} {x1 : Int} {x2 : Int}
    (H : Call wdC d mX3_size [vR 42] h (rI fun v2 h1 => (x2 < v2 → inR (x1 + 1) ∧ ((x2 ≠ (x1 + 1) → Call wdC d mX3_size [vR 42] h1 (rI fun v4 h3 => (v4 ≤ x2 → Call wdC d mX3_add [vR 40, vI 48] h3 (rV fun h5 => inR (x2 + 1) ∧ (At wdC (d + 1) mX1_writeWithPoint 2 [some (vR 33), some (vI x1), some (vI (x2 + 1))] [] h5 R))) ∧ (¬ (v4 ≤ x2) → Call wdC d mX3_size [vR 42] h3 (rI fun v7 h6 => inR (v7 - 1) ∧ (inR ((v7 - 1) - x2) ∧ (Call wdC d mX3_get [vR 42, vI ((v7 - 1) - x2)] h6 (rI fun v9 h8 => Call wdC d mX3_add [vR 40, vI v9] h8 (rV fun h10 => inR (x2 + 1) ∧ (At wdC (d + 1) mX1_writeWithPoint 2 [some (vR 33), some (vI x1), some (vI (x2 + 1))] [] h10 R))))))))) ∧ (¬ (x2 ≠ (x1 + 1)) → Call wdC d mX3_add [vR 40, vI 46] h1 (rV fun h11 => Call wdC d mX3_size [vR 42] h11 (rI fun v13 h12 => (v13 ≤ x2 → Call wdC d mX3_add [vR 40, vI 48] h12 (rV fun h14 => inR (x2 + 1) ∧ (At wdC (d + 1) mX1_writeWithPoint 2 [some (vR 33), some (vI x1), some (vI (x2 + 1))] [] h14 R))) ∧ (¬ (v13 ≤ x2) → Call wdC d mX3_size [vR 42] h12 (rI fun v16 h15 => inR (v16 - 1) ∧ (inR ((v16 - 1) - x2) ∧ (Call wdC d mX3_get [vR 42, vI ((v16 - 1) - x2)] h15 (rI fun v18 h17 => Call wdC d mX3_add [vR 40, vI v18] h17 (rV fun h19 => inR (x2 + 1) ∧ (At wdC (d + 1) mX1_writeWithPoint 2 [some (vR 33), some (vI x1), some (vI (x2 + 1))] [] h19 R)))))))))))) ∧ (¬ (x2 < v2) → (x1 < x2 → R none h1) ∧ (¬ (x1 < x2) → inR (x1 + 1) ∧ ((x2 ≠ (x1 + 1) → Call wdC d mX3_size [vR 42] h1 (rI fun v21 h20 => (v21 ≤ x2 → Call wdC d mX3_add [vR 40, vI 48] h20 (rV fun h22 => inR (x2 + 1) ∧ (At wdC (d + 1) mX1_writeWithPoint 2 [some (vR 33), some (vI x1), some (vI (x2 + 1))] [] h22 R))) ∧ (¬ (v21 ≤ x2) → Call wdC d mX3_size [vR 42] h20 (rI fun v24 h23 => inR (v24 - 1) ∧ (inR ((v24 - 1) - x2) ∧ (Call wdC d mX3_get [vR 42, vI ((v24 - 1) - x2)] h23 (rI fun v26 h25 => Call wdC d mX3_add [vR 40, vI v26] h25 (rV fun h27 => inR (x2 + 1) ∧ (At wdC (d + 1) mX1_writeWithPoint 2 [some (vR 33), some (vI x1), some (vI (x2 + 1))] [] h27 R))))))))) ∧ (¬ (x2 ≠ (x1 + 1)) → Call wdC d mX3_add [vR 40, vI 46] h1 (rV fun h28 => Call wdC d mX3_size [vR 42] h28 (rI fun v30 h29 => (v30 ≤ x2 → Call wdC d mX3_add [vR 40, vI 48] h29 (rV fun h31 => inR (x2 + 1) ∧ (At wdC (d + 1) mX1_writeWithPoint 2 [some (vR 33), some (vI x1), some (vI (x2 + 1))] [] h31 R))) ∧ (¬ (v30 ≤ x2) → Call wdC d mX3_size [vR 42] h29 (rI fun v33 h32 => inR (v33 - 1) ∧ (inR ((v33 - 1) - x2) ∧ (Call wdC d mX3_get [vR 42, vI ((v33 - 1) - x2)] h32 (rI fun v35 h34 => Call wdC d mX3_add [vR 40, vI v35] h34 (rV fun h36 => inR (x2 + 1) ∧ (At wdC (d + 1) mX1_writeWithPoint 2 [some (vR 33), some (vI x1), some (vI (x2 + 1))] [] h36 R))))))))))))))) : At wdC (d + 1) mX1_writeWithPoint 2 [some (vR 33), some (vI x1), some (vI x2)] [] h R :=
  At.wp 400 kX1_writeWithPoint [(2, [true, true, true])] okX1_writeWithPoint rfl ⟨_, _, _, rfl⟩ H
set_option maxRecDepth 20000 in
theorem sX1_writeWithExponent {d : Nat} {R : AR} {h : AH} {x1 : Int}
    (H : Call wdC d mX3_last [vR 42] h (rI fun v2 h1 => Call wdC d mX3_add [vR 40, vI v2] h1 (rV fun h3 => Call wdC d mX3_size [vR 42] h3 (rI fun v5 h4 => (v5 ≤ 1 → (0 ≤ x1 → (0 ≤ x1 → Call wdC d mX3_addText [vR 40, vR 1005] h4 (rV fun h6 => (10 ≤ x1 → Call wdC d mX3_addText [vR 40, vR 1002] h6 (rV fun h7 => Call wdC d mX3_addDecimal [vR 40, vI x1] h7 (rV fun h8 => R none h8))) ∧ (¬ (10 ≤ x1) → Call wdC d mX3_addText [vR 40, vR 1006] h6 (rV fun h9 => Call wdC d mX3_addDecimal [vR 40, vI x1] h9 (rV fun h10 => R none h10))))) ∧ (¬ (0 ≤ x1) → Call wdC d mX3_addText [vR 40, vR 1004] h4 (rV fun h11 => (10 ≤ x1 → Call wdC d mX3_addText [vR 40, vR 1002] h11 (rV fun h12 => Call wdC d mX3_addDecimal [vR 40, vI x1] h12 (rV fun h13 => R none h13))) ∧ (¬ (10 ≤ x1) → Call wdC d mX3_addText [vR 40, vR 1006] h11 (rV fun h14 => Call wdC d mX3_addDecimal [vR 40, vI x1] h14 (rV fun h15 => R none h15)))))) ∧ (¬ (0 ≤ x1) → inR (-x1) ∧ ((0 ≤ x1 → Call wdC d mX3_addText [vR 40, vR 1005] h4 (rV fun h16 => (10 ≤ (-x1) → Call wdC d mX3_addText [vR 40, vR 1002] h16 (rV fun h17 => Call wdC d mX3_addDecimal [vR 40, vI (-x1)] h17 (rV fun h18 => R none h18))) ∧ (¬ (10 ≤ (-x1)) → Call wdC d mX3_addText [vR 40, vR 1006] h16 (rV fun h19 => Call wdC d mX3_addDecimal [vR 40, vI (-x1)] h19 (rV fun h20 => R none h20))))) ∧ (¬ (0 ≤ x1) → Call wdC d mX3_addText [vR 40, vR 1004] h4 (rV fun h21 => (10 ≤ (-x1) → Call wdC d mX3_addText [vR 40, vR 1002] h21 (rV fun h22 => Call wdC d mX3_addDecimal [vR 40, vI (-x1)] h22 (rV fun h23 => R none h23))) ∧ (¬ (10 ≤ (-x1)) → Call wdC d mX3_addText [vR 40, vR 1006] h21 (rV fun h24 => Call wdC d mX3_addDecimal [vR 40, vI (-x1)] h24 (rV fun h25 => R none h25)))))))) ∧ (¬ (v5 ≤ 1) → Call wdC d mX3_add [vR 40, vI 46] h4 (rV fun h26 => Call wdC d mX1_writeDigits [vR 33, vI 1] h26 (rV fun h27 => (0 ≤ x1 → (0 ≤ x1 → Call wdC d mX3_addText [vR 40, vR 1005] h27 (rV fun h28 => (10 ≤ x1 → Call wdC d mX3_addText [vR 40, vR 1002] h28 (rV fun h29 => Call wdC d mX3_addDecimal [vR 40, vI x1] h29 (rV fun h30 => R none h30))) ∧ (¬ (10 ≤ x1) → Call wdC d mX3_addText [vR 40, vR 1006] h28 (rV fun h31 => Call wdC d mX3_addDecimal [vR 40, vI x1] h31 (rV fun h32 => R none h32))))) ∧ (¬ (0 ≤ x1) → Call wdC d mX3_addText [vR 40, vR 1004] h27 (rV fun h33 => (10 ≤ x1 → Call wdC d mX3_addText [vR 40, vR 1002] h33 (rV fun h34 => Call wdC d mX3_addDecimal [vR 40, vI x1] h34 (rV fun h35 => R none h35))) ∧ (¬ (10 ≤ x1) → Call wdC d mX3_addText [vR 40, vR 1006] h33 (rV fun h36 => Call wdC d mX3_addDecimal [vR 40, vI x1] h36 (rV fun h37 => R none h37)))))) ∧ (¬ (0 ≤ x1) → inR (-x1) ∧ ((0 ≤ x1 → Call wdC d mX3_addText [vR 40, vR 1005] h27 (rV fun h38 => (10 ≤ (-x1) → Call wdC d mX3_addText [vR 40, vR 1002] h38 (rV fun h39 => Call wdC d mX3_addDecimal [vR 40, vI (-x1)] h39 (rV fun h40 => R none h40))) ∧ (¬ (10 ≤ (-x1)) → Call wdC d mX3_addText [vR 40, vR 1006] h38 (rV fun h41 => Call wdC d mX3_addDecimal [vR 40, vI (-x1)] h41 (rV fun h42 => R none h42))))) ∧ (¬ (0 ≤ x1) → Call wdC d mX3_addText [vR 40, vR 1004] h27 (rV fun h43 => (10 ≤ (-x1) → Call wdC d mX3_addText [vR 40, vR 1002] h43 (rV fun h44 => Call wdC d mX3_addDecimal [vR 40, vI (-x1)] h44 (rV fun h45 => R none h45))) ∧ (¬ (10 ≤ (-x1)) → Call wdC d mX3_addText [vR 40, vR 1006] h43 (rV fun h46 => Call wdC d mX3_addDecimal [vR 40, vI (-x1)] h46 (rV fun h47 => R none h47)))))))))))))) : At wdC (d + 1) mX1_writeWithExponent 0 [some (vR 33), some (vI x1), none] [] h R :=
  At.wp 400 kX1_writeWithExponent [] okX1_writeWithExponent rfl ⟨_, _, _, rfl⟩ H
set_option maxRecDepth 20000 in
theorem sX2_readText {d : Nat} {R : AR} {h : AH} 
    (H : Call wdC d mX3_clear [vR 9] h (rV fun h1 => Call wdC d mX3_clear [vR 27] h1 (rV fun h2 => Call wdC d mX3_clear [vR 29] h2 (rV fun h3 => Call wdC d mX3_clear [vR 31] h3 (rV fun h4 => Call wdC d mX3_get [vR 3, vI 0] (pS h4 26 9 (-1)) (rI fun v6 h5 => (v6 = 61 → At wdC (d + 1) mX2_readText 60 [some (vR 26), some (vI 0)] [] (pS (pS h5 26 8 1) 26 10 0) R) ∧ (¬ (v6 = 61) → R (some (vI 0)) h5))))))) : At wdC (d + 1) mX2_readText 0 [some (vR 26), none] [] h R :=
  At.wp 400 kX2_readText [(60, [true, true])] okX2_readText rfl ⟨_, _, _, rfl⟩ H
set_option maxRecDepth 20000 in
theorem sX2_readText_60 {d : Nat} {R : AR} {h : AH} {x1 : Int}
    (H : Call wdC d mX3_size [vR 3] h (rI fun v8 h7 => (v8 < x1 → R (some (vI (gS h7 26 9))) h7) ∧ (¬ (v8 < x1) → ((gS h7 26 9) ≠ (-1) → R (some (vI (gS h7 26 9))) h7) ∧ (¬ ((gS h7 26 9) ≠ (-1)) → ((gS h7 26 10) = 4 → R (some (vI (gS h7 26 9))) h7) ∧ (¬ ((gS h7 26 10) = 4) → Call wdC d mX2_skipBlanks [vR 26] h7 (rV fun h9 => ((gS h9 26 10) < 0 ∨ 2 < (gS h9 26 10) → Call wdC d mX2_readSeparator [vR 26] h9 (rV fun h10 => inR (x1 + 1) ∧ (At wdC (d + 1) mX2_readText 60 [some (vR 26), some (vI (x1 + 1))] [] h10 R))) ∧ ((gS h9 26 10) = 0 → Call wdC d mX2_readOperand [vR 26] h9 (rV fun h11 => inR (x1 + 1) ∧ (At wdC (d + 1) mX2_readText 60 [some (vR 26), some (vI (x1 + 1))] [] h11 R))) ∧ ((gS h9 26 10) = 1 → Call wdC d mX2_readOperator [vR 26] h9 (rV fun h12 => inR (x1 + 1) ∧ (At wdC (d + 1) mX2_readText 60 [some (vR 26), some (vI (x1 + 1))] [] h12 R))) ∧ ((gS h9 26 10) = 2 → Call wdC d mX2_readElement [vR 26] h9 (rV fun h13 => inR (x1 + 1) ∧ (At wdC (d + 1) mX2_readText 60 [some (vR 26), some (vI (x1 + 1))] [] h13 R))) ∧ True)))))) : At wdC (d + 1) mX2_readText 60 [some (vR 26), some (vI x1)] [] h R :=
  At.wp 400 kX2_readText [(60, [true, true])] okX2_readText rfl ⟨_, _, _, rfl⟩ H
set_option maxRecDepth 20000 in
theorem sX2_skipBlanks {d : Nat} {R : AR} {h : AH} 
    (H : Call wdC d mX3_size [vR 3] h (rI fun v2 h1 => (v2 ≤ (gS h 26 8) → R none h1) ∧ (¬ (v2 ≤ (gS h 26 8)) → Call wdC d mX3_get [vR 3, vI (gS h1 26 8)] h1 (rI fun v4 h3 => (v4 ≠ 32 → R none h3) ∧ (¬ (v4 ≠ 32) → inR ((gS h3 26 8) + 1) ∧ (At wdC (d + 1) mX2_skipBlanks 0 [some (vR 26)] [] (pS h3 26 8 ((gS h3 26 8) + 1)) R)))))) : At wdC (d + 1) mX2_skipBlanks 0 [some (vR 26)] [] h R :=
  At.wp 400 kX2_skipBlanks [(0, [true])] okX2_skipBlanks rfl ⟨_, _, _, rfl⟩ H
set_option maxRecDepth 20000 in
theorem sX2_readOperand {d : Nat} {R : AR} {h : AH} 
    (H : Call wdC d mX3_get [vR 3, vI (gS h 26 8)] h (rI fun v2 h1 => (v2 = 43 → (v2 ≠ 45 → Call wdC d mX3_add [vR 27, vI 14] h1 (rV fun h3 => inR ((gS h3 26 8) + 1) ∧ (R none (pS h3 26 8 ((gS h3 26 8) + 1))))) ∧ (¬ (v2 ≠ 45) → Call wdC d mX3_add [vR 27, vI 13] h1 (rV fun h4 => inR ((gS h4 26 8) + 1) ∧ (R none (pS h4 26 8 ((gS h4 26 8) + 1)))))) ∧ (¬ (v2 = 43) → (v2 ≠ 45 → (v2 ≠ 40 → (v2 = 44 → Call wdC d mX2_leaveOut [vR 26, vI v2] h1 (rV fun h5 => R none h5)) ∧ (¬ (v2 = 44) → (v2 ≠ 41 → (v2 ≠ 123 → (v2 ≠ 34 → (v2 ≠ 35 → (v2 ≠ 39 → Call wdC d mX7_isLetter [vI v2] h1 (rI fun v7 h6 => (v7 ≠ 0 → Call wdC d mX2_readWord [vR 26] h6 (rV fun h8 => R none h8)) ∧ (¬ (v7 ≠ 0) → (v2 ≠ 95 → Call wdC d mX4_findReference [vR 21, vI (gS h6 26 8)] h6 (rI fun v10 h9 => (v10 = 0 → Call wdC d mX4_readNumber [vR 21, vI (gS h9 26 8), vI 0] h9 (rI fun v12 h11 => Call wdC d mX2_endItem [vR 26, vI v12] h11 (rV fun h13 => R none h13))) ∧ (¬ (v10 = 0) → Call wdC d mX4_writeReference [vR 21, vI (-1)] h9 (rV fun h14 => Call wdC d mX2_endItem [vR 26, vI 1] h14 (rV fun h15 => R none h15))))) ∧ (¬ (v2 ≠ 95) → Call wdC d mX2_readWord [vR 26] h6 (rV fun h16 => R none h16))))) ∧ (¬ (v2 ≠ 39) → Call wdC d mX2_readQuotedSheet [vR 26] h1 (rV fun h17 => R none h17))) ∧ (¬ (v2 ≠ 35) → Call wdC d mX4_readError [vR 21, vI (gS h1 26 8)] h1 (rI fun v19 h18 => Call wdC d mX2_endItem [vR 26, vI v19] h18 (rV fun h20 => R none h20)))) ∧ (¬ (v2 ≠ 34) → Call wdC d mX4_readString [vR 21, vI (gS h1 26 8)] h1 (rI fun v22 h21 => Call wdC d mX2_endItem [vR 26, vI v22] h21 (rV fun h23 => R none h23)))) ∧ (¬ (v2 ≠ 123) → Call wdC d mX2_openArray [vR 26] h1 (rV fun h24 => R none h24))) ∧ (¬ (v2 ≠ 41) → Call wdC d mX2_leaveOut [vR 26, vI v2] h1 (rV fun h25 => R none h25)))) ∧ (¬ (v2 ≠ 40) → inR ((gS h1 26 8) + 1) ∧ (Call wdC d mX2_open [vR 26, vI (-1), vI ((gS h1 26 8) + 1)] h1 (rV fun h26 => R none h26)))) ∧ (¬ (v2 ≠ 45) → (v2 ≠ 45 → Call wdC d mX3_add [vR 27, vI 14] h1 (rV fun h27 => inR ((gS h27 26 8) + 1) ∧ (R none (pS h27 26 8 ((gS h27 26 8) + 1))))) ∧ (¬ (v2 ≠ 45) → Call wdC d mX3_add [vR 27, vI 13] h1 (rV fun h28 => inR ((gS h28 26 8) + 1) ∧ (R none (pS h28 26 8 ((gS h28 26 8) + 1))))))))) : At wdC (d + 1) mX2_readOperand 0 [some (vR 26), none] [] h R :=
  At.wp 400 kX2_readOperand [] okX2_readOperand rfl ⟨_, _, _, rfl⟩ H
set_option maxRecDepth 20000 in
theorem sX2_endItem {d : Nat} {R : AR} {h : AH} {x1 : Int}
    (H : (x1 = 0 → R none (pS h 26 9 (gS h 26 8))) ∧ (¬ (x1 = 0) → Call wdC d mX4_behind [vR 21] h (rI fun v2 h1 => Call wdC d mX2_endAtom [vR 26] (pS h1 26 8 v2) (rV fun h3 => R none h3)))) : At wdC (d + 1) mX2_endItem 0 [some (vR 26), some (vI x1)] [] h R :=
  At.wp 400 kX2_endItem [] okX2_endItem rfl ⟨_, _, _, rfl⟩ H
set_option maxRecDepth 20000 in
theorem sX2_endAtom {d : Nat} {R : AR} {h : AH} 
    (H : Call wdC d mX3_size [vR 27] h (rI fun v2 h1 => At wdC (d + 1) mX2_endAtom 8 [some (vR 26), some (vI v2)] [] h1 R)) : At wdC (d + 1) mX2_endAtom 0 [some (vR 26), none] [] h R :=
  At.wp 400 kX2_endAtom [(8, [true, true])] okX2_endAtom rfl ⟨_, _, _, rfl⟩ H
set_option maxRecDepth 20000 in
theorem sX2_endAtom_8 {d : Nat} {R : AR} {h : AH} {x1 : Int}
    (H : (x1 ≤ 0 → R none (pS h 26 10 1)) ∧ (¬ (x1 ≤ 0) → Call wdC d mX3_last [vR 27] h (rI fun v4 h3 => (v4 = 13 → Call wdC d mX3_last [vR 27] h3 (rI fun v6 h5 => Call wdC d mX7_item [vI 9, vI v6] h5 (rI fun v8 h7 => Call wdC d mX3_add [vR 9, vI v8] h7 (rV fun h9 => Call wdC d mX3_dropLast [vR 27] h9 (rV fun h10 => inR (x1 + (-1)) ∧ (At wdC (d + 1) mX2_endAtom 8 [some (vR 26), some (vI (x1 + (-1)))] [] h10 R)))))) ∧ (¬ (v4 = 13) → Call wdC d mX3_last [vR 27] h3 (rI fun v12 h11 => (v12 ≠ 14 → R none (pS h11 26 10 1)) ∧ (¬ (v12 ≠ 14) → Call wdC d mX3_last [vR 27] h11 (rI fun v14 h13 => Call wdC d mX7_item [vI 9, vI v14] h13 (rI fun v16 h15 => Call wdC d mX3_add [vR 9, vI v16] h15 (rV fun h17 => Call wdC d mX3_dropLast [vR 27] h17 (rV fun h18 => inR (x1 + (-1)) ∧ (At wdC (d + 1) mX2_endAtom 8 [some (vR 26), some (vI (x1 + (-1)))] [] h18 R))))))))))) : At wdC (d + 1) mX2_endAtom 8 [some (vR 26), some (vI x1)] [] h R :=
  At.wp 400 kX2_endAtom [(8, [true, true])] okX2_endAtom rfl ⟨_, _, _, rfl⟩ H
set_option maxRecDepth 20000 in
theorem sX2_readQuotedSheet {d : Nat} {R : AR} {h : AH} 
    (H : Call wdC d mX4_readQuoted [vR 21, vI (gS h 26 8)] h (rI fun v2 h1 => (v2 = 0 → R none (pS h1 26 9 (gS h1 26 8))) ∧ (¬ (v2 = 0) → Call wdC d mX4_behind [vR 21] h1 (rI fun v4 h3 => Call wdC d mX3_get [vR 3, vI v4] h3 (rI fun v6 h5 => (v6 = 33 → Call wdC d mX4_unfolded [vR 21] h5 (rR fun q8 h7 => ob (isOb wdC q8 2) (Call wdC d mX3_size [vR q8] h7 (rI fun v10 h9 => Call wdC d mX6_find [vR 11, vR q8, vI 0, vI v10] h9 (rI fun v12 h11 => Call wdC d mX4_behind [vR 21] h11 (rI fun v14 h13 => inR (v14 + 1) ∧ (Call wdC d mX2_readSheetReference [vR 26, vI v12, vI (v14 + 1)] h13 (rV fun h15 => R none h15)))))))) ∧ (¬ (v6 = 33) → R none (pS h5 26 9 (gS h5 26 8)))))))) : At wdC (d + 1) mX2_readQuotedSheet 0 [some (vR 26), none] [] h R :=
  At.wp 400 kX2_readQuotedSheet [] okX2_readQuotedSheet rfl ⟨_, _, _, rfl⟩ H
set_option maxRecDepth 20000 in
theorem sX2_readSheetReference {d : Nat} {R : AR} {h : AH} {x1 : Int} {x2 : Int}
    (H : (x1 ≠ (-1) → Call wdC d mX4_findReference [vR 21, vI x2] h (rI fun v2 h1 => (v2 = 0 → R none (pS h1 26 9 x2)) ∧ (¬ (v2 = 0) → Call wdC d mX4_writeReference [vR 21, vI x1] h1 (rV fun h3 => Call wdC d mX2_endItem [vR 26, vI 1] h3 (rV fun h4 => R none h4))))) ∧ (¬ (x1 ≠ (-1)) → R none (pS h 26 9 (gS h 26 8)))) : At wdC (d + 1) mX2_readSheetReference 0 [some (vR 26), some (vI x1), some (vI x2)] [] h R :=
  At.wp 400 kX2_readSheetReference [] okX2_readSheetReference rfl ⟨_, _, _, rfl⟩ H
set_option maxRecDepth 20000 in
theorem sX2_readWord {d : Nat} {R : AR} {h : AH} 
    (H : Call wdC d mX7_wordEnd [vR 3, vI (gS h 26 8)] h (rI fun v2 h1 => Call wdC d mX3_get [vR 3, vI v2] h1 (rI fun v4 h3 => Call wdC d mX4_findReference [vR 21, vI (gS h3 26 8)] h3 (rI fun v6 h5 => (v6 = 0 → inR (v2 - (gS h5 26 8)) ∧ (((v2 - (gS h5 26 8)) ≤ 40 → (v4 ≠ 33 → (v4 ≠ 40 → Call wdC d mX4_readLogical [vR 21, vI (gS h5 26 8), vI v2] h5 (rI fun v8 h7 => (v8 = 0 → Call wdC d mX2_nameNumber [vR 26, vI v2] h7 (rI fun v10 h9 => Call wdC d mX7_item [vI 6, vI v10] h9 (rI fun v12 h11 => Call wdC d mX3_add [vR 9, vI v12] h11 (rV fun h13 => Call wdC d mX2_endAtom [vR 26] (pS h13 26 8 v2) (rV fun h14 => R none h14))))) ∧ (¬ (v8 = 0) → Call wdC d mX2_endItem [vR 26, vI 1] h7 (rV fun h15 => R none h15)))) ∧ (¬ (v4 ≠ 40) → Call wdC d mX7_functionNumber [vR 3, vI (gS h5 26 8), vI v2] h5 (rI fun v17 h16 => (v17 = (-1) → Call wdC d mX2_nameNumber [vR 26, vI v2] h16 (rI fun v19 h18 => inR (1000 + v19) ∧ (inR (v2 + 1) ∧ (Call wdC d mX2_open [vR 26, vI (1000 + v19), vI (v2 + 1)] h18 (rV fun h20 => R none h20))))) ∧ (¬ (v17 = (-1)) → inR (v2 + 1) ∧ (Call wdC d mX2_open [vR 26, vI v17, vI (v2 + 1)] h16 (rV fun h21 => R none h21)))))) ∧ (¬ (v4 ≠ 33) → Call wdC d mX6_find [vR 11, vR 3, vI (gS h5 26 8), vI v2] h5 (rI fun v23 h22 => inR (v2 + 1) ∧ (Call wdC d mX2_readSheetReference [vR 26, vI v23, vI (v2 + 1)] h22 (rV fun h24 => R none h24))))) ∧ (¬ ((v2 - (gS h5 26 8)) ≤ 40) → R none (pS h5 26 9 (gS h5 26 8))))) ∧ (¬ (v6 = 0) → Call wdC d mX4_writeReference [vR 21, vI (-1)] h5 (rV fun h25 => Call wdC d mX2_endItem [vR 26, vI 1] h25 (rV fun h26 => R none h26))))))) : At wdC (d + 1) mX2_readWord 0 [some (vR 26), none, none, none] [] h R :=
  At.wp 400 kX2_readWord [] okX2_readWord rfl ⟨_, _, _, rfl⟩ H
set_option maxRecDepth 20000 in
theorem sX2_nameNumber {d : Nat} {R : AR} {h : AH} {x1 : Int}
    (H : Call wdC d mX6_find [vR 16, vR 3, vI (gS h 26 8), vI x1] h (rI fun v2 h1 => (v2 = (-1) → Call wdC d mX6_add [vR 16, vR 3, vI (gS h1 26 8), vI x1] h1 (rI fun v4 h3 => R (some (vI v4)) h3)) ∧ (¬ (v2 = (-1)) → R (some (vI v2)) h1))) : At wdC (d + 1) mX2_nameNumber 0 [some (vR 26), some (vI x1), none] [] h R :=
  At.wp 400 kX2_nameNumber [] okX2_nameNumber rfl ⟨_, _, _, rfl⟩ H
set_option maxRecDepth 20000 in
theorem sX2_open {d : Nat} {R : AR} {h : AH} {x1 : Int} {x2 : Int}
    (H : Call wdC d mX3_size [vR 29] h (rI fun v2 h1 => (v2 < 60 → Call wdC d mX3_add [vR 27, vI 15] h1 (rV fun h3 => Call wdC d mX3_add [vR 29, vI x1] h3 (rV fun h4 => Call wdC d mX3_add [vR 31, vI 0] h4 (rV fun h5 => R none (pS h5 26 8 x2))))) ∧ (¬ (v2 < 60) → R none (pS h1 26 9 (gS h1 26 8))))) : At wdC (d + 1) mX2_open 0 [some (vR 26), some (vI x1), some (vI x2)] [] h R :=
  At.wp 400 kX2_open [] okX2_open rfl ⟨_, _, _, rfl⟩ H
set_option maxRecDepth 20000 in
theorem sX2_isInCall {d : Nat} {R : AR} {h : AH} 
    (H : Call wdC d mX3_size [vR 29] h (rI fun v2 h1 => (v2 ≤ 0 → R (some (vI 0)) h1) ∧ (¬ (v2 ≤ 0) → Call wdC d mX3_last [vR 29] h1 (rI fun v4 h3 => (v4 = (-1) → R (some (vI 0)) h3) ∧ (¬ (v4 = (-1)) → R (some (vI 1)) h3))))) : At wdC (d + 1) mX2_isInCall 0 [some (vR 26)] [] h R :=
  At.wp 400 kX2_isInCall [] okX2_isInCall rfl ⟨_, _, _, rfl⟩ H
set_option maxRecDepth 20000 in
theorem sX2_leaveOut {d : Nat} {R : AR} {h : AH} {x1 : Int}
    (H : Call wdC d mX2_isInCall [vR 26] h (rI fun v2 h1 => (v2 = 0 → R none (pS h1 26 9 (gS h1 26 8))) ∧ (¬ (v2 = 0) → Call wdC d mX3_last [vR 27] h1 (rI fun v4 h3 => (v4 = 15 → (x1 ≠ 41 → ((0 : Int) ≠ 0 → (x1 ≠ 44 → ((0 : Int) = 0 → Call wdC d mX3_last [vR 31] h3 (rI fun v6 h5 => inR (v6 + 1) ∧ (Call wdC d mX2_closeCall [vR 26, vI (v6 + 1)] h5 (rV fun h7 => R none h7)))) ∧ (¬ ((0 : Int) = 0) → Call wdC d mX2_closeCall [vR 26, vI 0] h3 (rV fun h8 => R none h8))) ∧ (¬ (x1 ≠ 44) → Call wdC d mX2_passComma [vR 26] h3 (rV fun h9 => R none h9))) ∧ (¬ ((0 : Int) ≠ 0) → Call wdC d mX7_item [vI 7, vI 0] h3 (rI fun v11 h10 => Call wdC d mX3_add [vR 9, vI v11] h10 (rV fun h12 => (x1 ≠ 44 → ((0 : Int) = 0 → Call wdC d mX3_last [vR 31] h12 (rI fun v14 h13 => inR (v14 + 1) ∧ (Call wdC d mX2_closeCall [vR 26, vI (v14 + 1)] h13 (rV fun h15 => R none h15)))) ∧ (¬ ((0 : Int) = 0) → Call wdC d mX2_closeCall [vR 26, vI 0] h12 (rV fun h16 => R none h16))) ∧ (¬ (x1 ≠ 44) → Call wdC d mX2_passComma [vR 26] h12 (rV fun h17 => R none h17)))))) ∧ (¬ (x1 ≠ 41) → Call wdC d mX3_last [vR 31] h3 (rI fun v19 h18 => (v19 ≠ 0 → ((0 : Int) ≠ 0 → (x1 ≠ 44 → ((0 : Int) = 0 → Call wdC d mX3_last [vR 31] h18 (rI fun v21 h20 => inR (v21 + 1) ∧ (Call wdC d mX2_closeCall [vR 26, vI (v21 + 1)] h20 (rV fun h22 => R none h22)))) ∧ (¬ ((0 : Int) = 0) → Call wdC d mX2_closeCall [vR 26, vI 0] h18 (rV fun h23 => R none h23))) ∧ (¬ (x1 ≠ 44) → Call wdC d mX2_passComma [vR 26] h18 (rV fun h24 => R none h24))) ∧ (¬ ((0 : Int) ≠ 0) → Call wdC d mX7_item [vI 7, vI 0] h18 (rI fun v26 h25 => Call wdC d mX3_add [vR 9, vI v26] h25 (rV fun h27 => (x1 ≠ 44 → ((0 : Int) = 0 → Call wdC d mX3_last [vR 31] h27 (rI fun v29 h28 => inR (v29 + 1) ∧ (Call wdC d mX2_closeCall [vR 26, vI (v29 + 1)] h28 (rV fun h30 => R none h30)))) ∧ (¬ ((0 : Int) = 0) → Call wdC d mX2_closeCall [vR 26, vI 0] h27 (rV fun h31 => R none h31))) ∧ (¬ (x1 ≠ 44) → Call wdC d mX2_passComma [vR 26] h27 (rV fun h32 => R none h32)))))) ∧ (¬ (v19 ≠ 0) → ((1 : Int) ≠ 0 → (x1 ≠ 44 → ((1 : Int) = 0 → Call wdC d mX3_last [vR 31] h18 (rI fun v34 h33 => inR (v34 + 1) ∧ (Call wdC d mX2_closeCall [vR 26, vI (v34 + 1)] h33 (rV fun h35 => R none h35)))) ∧ (¬ ((1 : Int) = 0) → Call wdC d mX2_closeCall [vR 26, vI 0] h18 (rV fun h36 => R none h36))) ∧ (¬ (x1 ≠ 44) → Call wdC d mX2_passComma [vR 26] h18 (rV fun h37 => R none h37))) ∧ (¬ ((1 : Int) ≠ 0) → Call wdC d mX7_item [vI 7, vI 0] h18 (rI fun v39 h38 => Call wdC d mX3_add [vR 9, vI v39] h38 (rV fun h40 => (x1 ≠ 44 → ((1 : Int) = 0 → Call wdC d mX3_last [vR 31] h40 (rI fun v42 h41 => inR (v42 + 1) ∧ (Call wdC d mX2_closeCall [vR 26, vI (v42 + 1)] h41 (rV fun h43 => R none h43)))) ∧ (¬ ((1 : Int) = 0) → Call wdC d mX2_closeCall [vR 26, vI 0] h40 (rV fun h44 => R none h44))) ∧ (¬ (x1 ≠ 44) → Call wdC d mX2_passComma [vR 26] h40 (rV fun h45 => R none h45))))))))) ∧ (¬ (v4 = 15) → R none (pS h3 26 9 (gS h3 26 8))))))) : At wdC (d + 1) mX2_leaveOut 0 [some (vR 26), some (vI x1), none] [] h R :=
  At.wp 400 kX2_leaveOut [] okX2_leaveOut rfl ⟨_, _, _, rfl⟩ H
set_option maxRecDepth 20000 in
theorem sX2_passComma {d : Nat} {R : AR} {h : AH} 
    (H : Call wdC d mX3_last [vR 31] h (rI fun v2 h1 => inR (v2 + 1) ∧ (((v2 + 1) < 30 → Call wdC d mX3_changeLast [vR 31, vI (v2 + 1)] h1 (rV fun h3 => inR ((gS h3 26 8) + 1) ∧ (R none (pS (pS h3 26 8 ((gS h3 26 8) + 1)) 26 10 0)))) ∧ (¬ ((v2 + 1) < 30) → R none (pS h1 26 9 (gS h1 26 8)))))) : At wdC (d + 1) mX2_passComma 0 [some (vR 26), none] [] h R :=
  At.wp 400 kX2_passComma [] okX2_passComma rfl ⟨_, _, _, rfl⟩ H
set_option maxRecDepth 20000 in
theorem sX2_leave {d : Nat} {R : AR} {h : AH} 
    (H : Call wdC d mX3_dropLast [vR 27] h (rV fun h1 => Call wdC d mX3_dropLast [vR 29] h1 (rV fun h2 => Call wdC d mX3_dropLast [vR 31] h2 (rV fun h3 => inR ((gS h3 26 8) + 1) ∧ (Call wdC d mX2_endAtom [vR 26] (pS h3 26 8 ((gS h3 26 8) + 1)) (rV fun h4 => R none h4)))))) : At wdC (d + 1) mX2_leave 0 [some (vR 26)] [] h R :=
  At.wp 400 kX2_leave [] okX2_leave rfl ⟨_, _, _, rfl⟩ H
set_option maxRecDepth 20000 in
theorem sX2_readOperator {d : Nat} {R : AR} {h : AH} 
    (H : Call wdC d mX3_get [vR 3, vI (gS h 26 8)] h (rI fun v2 h1 => Call wdC d mX3_size [vR 3] h1 (rI fun v4 h3 => ((gS h1 26 8) < v4 → (v2 ≠ 37 → (v2 ≠ 41 → (v2 ≠ 44 → inR ((gS h3 26 8) + 1) ∧ (Call wdC d mX3_get [vR 3, vI ((gS h3 26 8) + 1)] h3 (rI fun v6 h5 => Call wdC d mX2_operationAt [vI v2, vI v6] h5 (rI fun v8 h7 => Call wdC d mX2_joinOperands [vR 26, vI v8] h7 (rV fun h9 => R none h9))))) ∧ (¬ (v2 ≠ 44) → Call wdC d mX2_isInCall [vR 26] h3 (rI fun v11 h10 => (v11 = 0 → inR ((gS h10 26 8) + 1) ∧ (Call wdC d mX3_get [vR 3, vI ((gS h10 26 8) + 1)] h10 (rI fun v13 h12 => Call wdC d mX2_operationAt [vI v2, vI v13] h12 (rI fun v15 h14 => Call wdC d mX2_joinOperands [vR 26, vI v15] h14 (rV fun h16 => R none h16))))) ∧ (¬ (v11 = 0) → Call wdC d mX2_writeWaiting [vR 26, vI 1] h10 (rV fun h17 => Call wdC d mX2_passComma [vR 26] h17 (rV fun h18 => R none h18)))))) ∧ (¬ (v2 ≠ 41) → Call wdC d mX2_closeBracket [vR 26] h3 (rV fun h19 => R none h19))) ∧ (¬ (v2 ≠ 37) → Call wdC d mX7_item [vI 9, vI 12] h3 (rI fun v21 h20 => Call wdC d mX3_add [vR 9, vI v21] h20 (rV fun h22 => inR ((gS h22 26 8) + 1) ∧ (R none (pS h22 26 8 ((gS h22 26 8) + 1))))))) ∧ (¬ ((gS h1 26 8) < v4) → Call wdC d mX2_endText [vR 26] h3 (rV fun h23 => R none h23))))) : At wdC (d + 1) mX2_readOperator 0 [some (vR 26), none] [] h R :=
  At.wp 400 kX2_readOperator [] okX2_readOperator rfl ⟨_, _, _, rfl⟩ H
set_option maxRecDepth 20000 in
theorem sX2_endText {d : Nat} {R : AR} {h : AH} 
    (H : Call wdC d mX3_size [vR 29] h (rI fun v2 h1 => (v2 ≤ 0 → Call wdC d mX2_writeWaiting [vR 26, vI 1] h1 (rV fun h3 => R none (pS h3 26 10 4))) ∧ (¬ (v2 ≤ 0) → R none (pS h1 26 9 (gS h1 26 8))))) : At wdC (d + 1) mX2_endText 0 [some (vR 26)] [] h R :=
  At.wp 400 kX2_endText [] okX2_endText rfl ⟨_, _, _, rfl⟩ H
set_option maxRecDepth 20000 in
theorem sX2_closeBracket {d : Nat} {R : AR} {h : AH} 
    (H : Call wdC d mX3_size [vR 29] h (rI fun v2 h1 => (v2 ≠ 0 → Call wdC d mX2_writeWaiting [vR 26, vI 1] h1 (rV fun h3 => Call wdC d mX2_isInCall [vR 26] h3 (rI fun v5 h4 => (v5 = 0 → Call wdC d mX7_item [vI 9, vI 15] h4 (rI fun v7 h6 => Call wdC d mX3_add [vR 9, vI v7] h6 (rV fun h8 => Call wdC d mX2_leave [vR 26] h8 (rV fun h9 => R none h9)))) ∧ (¬ (v5 = 0) → Call wdC d mX3_last [vR 31] h4 (rI fun v11 h10 => inR (v11 + 1) ∧ (Call wdC d mX2_closeCall [vR 26, vI (v11 + 1)] h10 (rV fun h12 => R none h12))))))) ∧ (¬ (v2 ≠ 0) → R none (pS h1 26 9 (gS h1 26 8))))) : At wdC (d + 1) mX2_closeBracket 0 [some (vR 26)] [] h R :=
  At.wp 400 kX2_closeBracket [] okX2_closeBracket rfl ⟨_, _, _, rfl⟩ H
set_option maxRecDepth 20000 in
theorem sX2_joinOperands {d : Nat} {R : AR} {h : AH} {x1 : Int}
    (H : (x1 ≠ (-1) → Call wdC d mX2_tightness [vI x1] h (rI fun v2 h1 => Call wdC d mX2_writeWaiting [vR 26, vI v2] h1 (rV fun h3 => Call wdC d mX3_add [vR 27, vI x1] h3 (rV fun h4 => Call wdC d mX7_operationText [vI x1] h4 (rR fun q6 h5 => ob (isStr q6) (Call wdC d mS_length [vR q6] h5 (rI fun v8 h7 => inR ((gS h4 26 8) + v8) ∧ (R none (pS (pS h7 26 8 ((gS h4 26 8) + v8)) 26 10 0))))))))) ∧ (¬ (x1 ≠ (-1)) → R none (pS h 26 9 (gS h 26 8)))) : At wdC (d + 1) mX2_joinOperands 0 [some (vR 26), some (vI x1)] [] h R :=
  At.wp 400 kX2_joinOperands [] okX2_joinOperands rfl ⟨_, _, _, rfl⟩ H
set_option maxRecDepth 20000 in
theorem sX2_writeWaiting {d : Nat} {R : AR} {h : AH} {x1 : Int}
    (H : Call wdC d mX3_size [vR 27] h (rI fun v2 h1 => At wdC (d + 1) mX2_writeWaiting 8 [some (vR 26), some (vI x1), some (vI v2)] [] h1 R)) : At wdC (d + 1) mX2_writeWaiting 0 [some (vR 26), some (vI x1), none] [] h R :=
  At.wp 400 kX2_writeWaiting [(8, [true, true, true])] okX2_writeWaiting rfl ⟨_, _, _, rfl⟩ H
set_option maxRecDepth 20000 in
theorem sX2_writeWaiting_8 {d : Nat} {R : AR} {h : AH} {x1 : Int} {x2 : Int}
    (H : (x2 ≤ 0 → R none h) ∧ (¬ (x2 ≤ 0) → Call wdC d mX3_last [vR 27] h (rI fun v4 h3 => Call wdC d mX2_tightness [vI v4] h3 (rI fun v6 h5 => (v6 < x1 → R none h5) ∧ (¬ (v6 < x1) → Call wdC d mX3_last [vR 27] h5 (rI fun v8 h7 => Call wdC d mX7_item [vI 9, vI v8] h7 (rI fun v10 h9 => Call wdC d mX3_add [vR 9, vI v10] h9 (rV fun h11 => Call wdC d mX3_dropLast [vR 27] h11 (rV fun h12 => inR (x2 + (-1)) ∧ (At wdC (d + 1) mX2_writeWaiting 8 [some (vR 26), some (vI x1), some (vI (x2 + (-1)))] [] h12 R)))))))))) : At wdC (d + 1) mX2_writeWaiting 8 [some (vR 26), some (vI x1), some (vI x2)] [] h R :=
  At.wp 400 kX2_writeWaiting [(8, [true, true, true])] okX2_writeWaiting rfl ⟨_, _, _, rfl⟩ H
set_option maxRecDepth 20000 in
theorem sX2_operationAt {d : Nat} {R : AR} {h : AH} {x0 : Int} {x1 : Int}
    (H : (x0 = 38 → R (some (vI 6)) h) ∧ (¬ (x0 = 38) → (x0 = 42 → R (some (vI 9)) h) ∧ (¬ (x0 = 42) → (x0 = 43 → R (some (vI 7)) h) ∧ (¬ (x0 = 43) → (x0 = 45 → R (some (vI 8)) h) ∧ (¬ (x0 = 45) → (x0 = 47 → R (some (vI 10)) h) ∧ (¬ (x0 = 47) → (x0 = 60 → (x1 ≠ 62 → (x1 ≠ 61 → R (some (vI 2)) h) ∧ (¬ (x1 ≠ 61) → R (some (vI 3)) h)) ∧ (¬ (x1 ≠ 62) → R (some (vI 1)) h)) ∧ (¬ (x0 = 60) → (x0 = 61 → R (some (vI 0)) h) ∧ (¬ (x0 = 61) → (x0 = 62 → (x1 ≠ 61 → R (some (vI 4)) h) ∧ (¬ (x1 ≠ 61) → R (some (vI 5)) h)) ∧ (¬ (x0 = 62) → (x0 = 94 → R (some (vI 11)) h) ∧ (¬ (x0 = 94) → R (some (vI (-1))) h)))))))))) : At wdC d mX2_operationAt 0 [some (vI x0), some (vI x1)] [] h R :=
  At.wp 400 kX2_operationAt [] okX2_operationAt rfl ⟨_, _, _, rfl⟩ H
set_option maxRecDepth 20000 in
theorem sX2_tightness {d : Nat} {R : AR} {h : AH} {x0 : Int}
    (H : (x0 < 0 → R (some (vI 0)) h) ∧ (¬ (x0 < 0) → (x0 ≤ 11 → (5 < x0 → (x0 ≠ 6 → (8 < x0 → (10 < x0 → R (some (vI 5)) h) ∧ (¬ (10 < x0) → R (some (vI 4)) h)) ∧ (¬ (8 < x0) → R (some (vI 3)) h)) ∧ (¬ (x0 ≠ 6) → R (some (vI 2)) h)) ∧ (¬ (5 < x0) → R (some (vI 1)) h)) ∧ (¬ (x0 ≤ 11) → R (some (vI 0)) h))) : At wdC d mX2_tightness 0 [some (vI x0)] [] h R :=
  At.wp 400 kX2_tightness [] okX2_tightness rfl ⟨_, _, _, rfl⟩ H
set_option maxRecDepth 20000 in
theorem sX2_openArray {d : Nat} {R : AR} {h : AH} 
    (H : Call wdC d mX3_size [vR 29] h (rI fun v2 h1 => (v2 < 60 → inR ((gS h1 26 8) + 1) ∧ (R none (pS (pS (pS (pS (pS (pS h1 26 11 0) 26 12 0) 26 13 1) 26 14 (-1)) 26 8 ((gS h1 26 8) + 1)) 26 10 2))) ∧ (¬ (v2 < 60) → R none (pS h1 26 9 (gS h1 26 8))))) : At wdC (d + 1) mX2_openArray 0 [some (vR 26)] [] h R :=
  At.wp 400 kX2_openArray [] okX2_openArray rfl ⟨_, _, _, rfl⟩ H
set_option maxRecDepth 20000 in
theorem sX2_readElement {d : Nat} {R : AR} {h : AH} 
    (H : Call wdC d mX3_get [vR 3, vI (gS h 26 8)] h (rI fun v2 h1 => (v2 ≠ 45 → inR ((gS h1 26 8) + 0) ∧ (Call wdC d mX2_skipBlanks [vR 26] (pS h1 26 8 ((gS h1 26 8) + 0)) (rV fun h3 => Call wdC d mX3_get [vR 3, vI (gS h3 26 8)] h3 (rI fun v5 h4 => Call wdC d mX2_isElement [vR 26, vI v5, vI 0] h4 (rI fun v7 h6 => (v7 ≠ 0 → Call wdC d mX4_behind [vR 21] h6 (rI fun v9 h8 => inR ((gS h8 26 11) + 1) ∧ (inR ((gS h8 26 12) + 1) ∧ (R none (pS (pS (pS (pS h8 26 8 v9) 26 11 ((gS h8 26 11) + 1)) 26 12 ((gS h8 26 12) + 1)) 26 10 3))))) ∧ (¬ (v7 ≠ 0) → R none (pS h6 26 9 (gS h6 26 8)))))))) ∧ (¬ (v2 ≠ 45) → inR ((gS h1 26 8) + 1) ∧ (Call wdC d mX2_skipBlanks [vR 26] (pS h1 26 8 ((gS h1 26 8) + 1)) (rV fun h10 => Call wdC d mX3_get [vR 3, vI (gS h10 26 8)] h10 (rI fun v12 h11 => Call wdC d mX2_isElement [vR 26, vI v12, vI 1] h11 (rI fun v14 h13 => (v14 ≠ 0 → Call wdC d mX4_behind [vR 21] h13 (rI fun v16 h15 => inR ((gS h15 26 11) + 1) ∧ (inR ((gS h15 26 12) + 1) ∧ (R none (pS (pS (pS (pS h15 26 8 v16) 26 11 ((gS h15 26 11) + 1)) 26 12 ((gS h15 26 12) + 1)) 26 10 3))))) ∧ (¬ (v14 ≠ 0) → R none (pS h13 26 9 (gS h13 26 8)))))))))) : At wdC (d + 1) mX2_readElement 0 [some (vR 26), none] [] h R :=
  At.wp 400 kX2_readElement [] okX2_readElement rfl ⟨_, _, _, rfl⟩ H
set_option maxRecDepth 20000 in
theorem sX2_isElement {d : Nat} {R : AR} {h : AH} {x1 : Int} {x2 : Int}
    (H : Call wdC d mX7_isDigit [vI x1] h (rI fun v2 h1 => (v2 ≠ 0 → Call wdC d mX4_findReference [vR 21, vI (gS h1 26 8)] h1 (rI fun v4 h3 => (v4 ≠ 0 → R (some (vI 0)) h3) ∧ (¬ (v4 ≠ 0) → Call wdC d mX4_readNumber [vR 21, vI (gS h3 26 8), vI x2] h3 (rI fun v6 h5 => (v6 = 0 → R (some (vI 0)) h5) ∧ (¬ (v6 = 0) → R (some (vI 1)) h5))))) ∧ (¬ (v2 ≠ 0) → (x1 ≠ 46 → (x2 ≠ 1 → (x1 ≠ 34 → (x1 ≠ 35 → Call wdC d mX7_wordEnd [vR 3, vI (gS h1 26 8)] h1 (rI fun v8 h7 => Call wdC d mX3_get [vR 3, vI v8] h7 (rI fun v10 h9 => (v10 = 40 → R (some (vI 0)) h9) ∧ (¬ (v10 = 40) → (v10 = 33 → R (some (vI 0)) h9) ∧ (¬ (v10 = 33) → Call wdC d mX4_readLogical [vR 21, vI (gS h9 26 8), vI v8] h9 (rI fun v12 h11 => (v12 = 0 → R (some (vI 0)) h11) ∧ (¬ (v12 = 0) → R (some (vI 1)) h11))))))) ∧ (¬ (x1 ≠ 35) → Call wdC d mX4_readError [vR 21, vI (gS h1 26 8)] h1 (rI fun v14 h13 => zok v14 (R (some (vI v14)) h13)))) ∧ (¬ (x1 ≠ 34) → Call wdC d mX4_readString [vR 21, vI (gS h1 26 8)] h1 (rI fun v16 h15 => zok v16 (R (some (vI v16)) h15)))) ∧ (¬ (x2 ≠ 1) → R (some (vI 0)) h1)) ∧ (¬ (x1 ≠ 46) → Call wdC d mX4_findReference [vR 21, vI (gS h1 26 8)] h1 (rI fun v18 h17 => (v18 ≠ 0 → R (some (vI 0)) h17) ∧ (¬ (v18 ≠ 0) → Call wdC d mX4_readNumber [vR 21, vI (gS h17 26 8), vI x2] h17 (rI fun v20 h19 => (v20 = 0 → R (some (vI 0)) h19) ∧ (¬ (v20 = 0) → R (some (vI 1)) h19)))))))) : At wdC (d + 1) mX2_isElement 0 [some (vR 26), some (vI x1), some (vI x2), none, none] [] h R :=
  At.wp 400 kX2_isElement [] okX2_isElement rfl ⟨_, _, _, rfl⟩ H
set_option maxRecDepth 20000 in
theorem sX2_readSeparator {d : Nat} {R : AR} {h : AH} 
    (H : Call wdC d mX3_get [vR 3, vI (gS h 26 8)] h (rI fun v2 h1 => ((gS h1 26 14) = (-1) → At wdC (d + 1) mX2_readSeparator 37 [some (vR 26), some (vI v2), some (vI 1), none] [] h1 R) ∧ (¬ ((gS h1 26 14) = (-1)) → ((gS h1 26 12) ≠ (gS h1 26 14) → At wdC (d + 1) mX2_readSeparator 37 [some (vR 26), some (vI v2), some (vI 0), none] [] h1 R) ∧ (¬ ((gS h1 26 12) ≠ (gS h1 26 14)) → At wdC (d + 1) mX2_readSeparator 37 [some (vR 26), some (vI v2), some (vI 1), none] [] h1 R)))) : At wdC (d + 1) mX2_readSeparator 0 [some (vR 26), none, none, none] [] h R :=
  At.wp 400 kX2_readSeparator [(37, [true, true, true, false]), (53, [true, true, true, true]), (100, [true, true, true, true]), (155, [true, true, true, false])] okX2_readSeparator rfl ⟨_, _, _, rfl⟩ H
set_option maxRecDepth 20000 in
theorem sX2_readSeparator_37 {d : Nat} {R : AR} {h : AH} {x1 : Int} {x2 : Int}
    (H : (256 ≤ (gS h 26 11) → At wdC (d + 1) mX2_readSeparator 53 [some (vR 26), some (vI x1), some (vI x2), some (vI 0)] [] h R) ∧ (¬ (256 ≤ (gS h 26 11)) → At wdC (d + 1) mX2_readSeparator 53 [some (vR 26), some (vI x1), some (vI x2), some (vI 1)] [] h R)) : At wdC (d + 1) mX2_readSeparator 37 [some (vR 26), some (vI x1), some (vI x2), none] [] h R :=
  At.wp 400 kX2_readSeparator [(37, [true, true, true, false]), (53, [true, true, true, true]), (100, [true, true, true, true]), (155, [true, true, true, false])] okX2_readSeparator rfl ⟨_, _, _, rfl⟩ H
set_option maxRecDepth 20000 in
theorem sX2_readSeparator_53 {d : Nat} {R : AR} {h : AH} {x1 : Int} {x2 : Int} {x3 : Int}
    (H : (x1 ≠ 44 → At wdC (d + 1) mX2_readSeparator 100 [some (vR 26), some (vI x1), some (vI x2), some (vI x3)] [] h R) ∧ (¬ (x1 ≠ 44) → (x3 = 0 → At wdC (d + 1) mX2_readSeparator 100 [some (vR 26), some (vI x1), some (vI x2), some (vI x3)] [] h R) ∧ (¬ (x3 = 0) → ((gS h 26 14) = (-1) → inR ((gS h 26 8) + 1) ∧ (R none (pS (pS h 26 10 2) 26 8 ((gS h 26 8) + 1)))) ∧ (¬ ((gS h 26 14) = (-1)) → ((gS h 26 14) ≤ (gS h 26 12) → At wdC (d + 1) mX2_readSeparator 100 [some (vR 26), some (vI x1), some (vI x2), some (vI x3)] [] h R) ∧ (¬ ((gS h 26 14) ≤ (gS h 26 12)) → inR ((gS h 26 8) + 1) ∧ (R none (pS (pS h 26 10 2) 26 8 ((gS h 26 8) + 1)))))))) : At wdC (d + 1) mX2_readSeparator 53 [some (vR 26), some (vI x1), some (vI x2), some (vI x3)] [] h R :=
  At.wp 400 kX2_readSeparator [(37, [true, true, true, false]), (53, [true, true, true, true]), (100, [true, true, true, true]), (155, [true, true, true, false])] okX2_readSeparator rfl ⟨_, _, _, rfl⟩ H
set_option maxRecDepth 20000 in
theorem sX2_readSeparator_100 {d : Nat} {R : AR} {h : AH} {x1 : Int} {x2 : Int} {x3 : Int}
    (H : (x1 ≠ 59 → At wdC (d + 1) mX2_readSeparator 155 [some (vR 26), some (vI x1), some (vI x2), none] [] h R) ∧ (¬ (x1 ≠ 59) → (x3 = 0 → At wdC (d + 1) mX2_readSeparator 155 [some (vR 26), some (vI x1), some (vI x2), none] [] h R) ∧ (¬ (x3 = 0) → (x2 = 0 → At wdC (d + 1) mX2_readSeparator 155 [some (vR 26), some (vI x1), some (vI x2), none] [] h R) ∧ (¬ (x2 = 0) → inR ((gS h 26 13) + 1) ∧ (inR ((gS h 26 8) + 1) ∧ (R none (pS (pS (pS (pS (pS h 26 14 (gS h 26 12)) 26 12 0) 26 13 ((gS h 26 13) + 1)) 26 10 2) 26 8 ((gS h 26 8) + 1)))))))) : At wdC (d + 1) mX2_readSeparator 100 [some (vR 26), some (vI x1), some (vI x2), some (vI x3)] [] h R :=
  At.wp 400 kX2_readSeparator [(37, [true, true, true, false]), (53, [true, true, true, true]), (100, [true, true, true, true]), (155, [true, true, true, false])] okX2_readSeparator rfl ⟨_, _, _, rfl⟩ H
set_option maxRecDepth 20000 in
theorem sX2_readSeparator_155 {d : Nat} {R : AR} {h : AH} {x1 : Int} {x2 : Int}
    (H : (x1 ≠ 125 → R none (pS h 26 9 (gS h 26 8))) ∧ (¬ (x1 ≠ 125) → (x2 = 0 → R none (pS h 26 9 (gS h 26 8))) ∧ (¬ (x2 = 0) → Call wdC d mX7_item [vI 8, vI (gS h 26 13)] h (rI fun v4 h3 => Call wdC d mX3_add [vR 9, vI v4] h3 (rV fun h5 => Call wdC d mX3_add [vR 9, vI (gS h5 26 12)] h5 (rV fun h6 => inR ((gS h6 26 8) + 1) ∧ (Call wdC d mX2_endAtom [vR 26] (pS h6 26 8 ((gS h6 26 8) + 1)) (rV fun h7 => R none h7)))))))) : At wdC (d + 1) mX2_readSeparator 155 [some (vR 26), some (vI x1), some (vI x2), none] [] h R :=
  At.wp 400 kX2_readSeparator [(37, [true, true, true, false]), (53, [true, true, true, true]), (100, [true, true, true, true]), (155, [true, true, true, false])] okX2_readSeparator rfl ⟨_, _, _, rfl⟩ H
set_option maxRecDepth 20000 in
theorem sX3_size {d : Nat} {R : AR} {h : AH} {r : Nat}
    (H : ob (isOb wdC r 2) (R (some (vI (gS h r 1))) h)) : At wdC d mX3_size 0 [some (vR r)] [] h R :=
  At.wp 400 kX3_size [] okX3_size rfl ⟨_, _, _, rfl⟩ H
set_option maxRecDepth 20000 in
theorem sX3_get {d : Nat} {R : AR} {h : AH} {r : Nat} {x1 : Int}
    (H : (x1 < 0 → R (some (vI 0)) h) ∧ (¬ (x1 < 0) → ob (isOb wdC r 2) (((gS h r 1) ≤ x1 → R (some (vI 0)) h) ∧ (¬ ((gS h r 1) ≤ x1) → ob (isOb wdC r 2) (ob (isAn wdC (rfk wdC r 0)) (((alen wdC (rfk wdC r 0)) ≤ x1 → R (some (vI 0)) h) ∧ (¬ ((alen wdC (rfk wdC r 0)) ≤ x1) → ob (isOb wdC r 2) (ob (isAb wdC (rfk wdC r 0) 0) ((0 ≤ x1 ∧ x1 < alen wdC (rfk wdC r 0)) ∧ (R (some (vI (gA h (rfk wdC r 0) x1))) h)))))))))) : At wdC d mX3_get 0 [some (vR r), some (vI x1)] [] h R :=
  At.wp 400 kX3_get [] okX3_get rfl ⟨_, _, _, rfl⟩ H
set_option maxRecDepth 20000 in
theorem sX3_last {d : Nat} {R : AR} {h : AH} {r : Nat}
    (H : ob (isOb wdC r 2) (inR ((gS h r 1) - 1) ∧ ((((gS h r 1) - 1) < 0 → R (some (vI (-1))) h) ∧ (¬ (((gS h r 1) - 1) < 0) → ob (isOb wdC r 2) (ob (isAn wdC (rfk wdC r 0)) (((alen wdC (rfk wdC r 0)) ≤ ((gS h r 1) - 1) → R (some (vI (-1))) h) ∧ (¬ ((alen wdC (rfk wdC r 0)) ≤ ((gS h r 1) - 1)) → ob (isOb wdC r 2) (ob (isAb wdC (rfk wdC r 0) 0) ((0 ≤ ((gS h r 1) - 1) ∧ ((gS h r 1) - 1) < alen wdC (rfk wdC r 0)) ∧ (R (some (vI (gA h (rfk wdC r 0) ((gS h r 1) - 1)))) h)))))))))) : At wdC d mX3_last 0 [some (vR r), none] [] h R :=
  At.wp 400 kX3_last [] okX3_last rfl ⟨_, _, _, rfl⟩ H
set_option maxRecDepth 20000 in
theorem sX3_add {d : Nat} {R : AR} {h : AH} {r : Nat} {x1 : Int}
    (H : ob (isOb wdC r 2) (((gS h r 1) < 0 → R none h) ∧ (¬ ((gS h r 1) < 0) → ob (isOb wdC r 2) (ob (isOb wdC r 2) (ob (isAn wdC (rfk wdC r 0)) (((alen wdC (rfk wdC r 0)) ≤ (gS h r 1) → R none h) ∧ (¬ ((alen wdC (rfk wdC r 0)) ≤ (gS h r 1)) → ob (isOb wdC r 2) (ob (isOb wdC r 2) (ob (isAb wdC (rfk wdC r 0) 0) ((0 ≤ (gS h r 1) ∧ (gS h r 1) < alen wdC (rfk wdC r 0)) ∧ (ob (isOb wdC r 2) (inR ((gS h r 1) + 1) ∧ (ob (isOb wdC r 2) (R none (pS (pA h (rfk wdC r 0) (gS h r 1).toNat x1) r 1 ((gS h r 1) + 1)))))))))))))))) : At wdC d mX3_add 0 [some (vR r), some (vI x1)] [] h R :=
  At.wp 400 kX3_add [] okX3_add rfl ⟨_, _, _, rfl⟩ H
set_option maxRecDepth 20000 in
theorem sX3_changeLast {d : Nat} {R : AR} {h : AH} {r : Nat} {x1 : Int}
    (H : ob (isOb wdC r 2) (inR ((gS h r 1) - 1) ∧ ((((gS h r 1) - 1) < 0 → R none h) ∧ (¬ (((gS h r 1) - 1) < 0) → ob (isOb wdC r 2) (ob (isAn wdC (rfk wdC r 0)) (((alen wdC (rfk wdC r 0)) ≤ ((gS h r 1) - 1) → R none h) ∧ (¬ ((alen wdC (rfk wdC r 0)) ≤ ((gS h r 1) - 1)) → ob (isOb wdC r 2) (ob (isAb wdC (rfk wdC r 0) 0) ((0 ≤ ((gS h r 1) - 1) ∧ ((gS h r 1) - 1) < alen wdC (rfk wdC r 0)) ∧ (R none (pA h (rfk wdC r 0) ((gS h r 1) - 1).toNat x1))))))))))) : At wdC d mX3_changeLast 0 [some (vR r), some (vI x1), none] [] h R :=
  At.wp 400 kX3_changeLast [] okX3_changeLast rfl ⟨_, _, _, rfl⟩ H
set_option maxRecDepth 20000 in
theorem sX3_addText {d : Nat} {R : AR} {h : AH} {r : Nat} {r1 : Nat}
    (H : At wdC (d + 1) mX3_addText 2 [some (vR r), some (vR r1), some (vI 0)] [] h R) : At wdC (d + 1) mX3_addText 0 [some (vR r), some (vR r1), none] [] h R :=
  At.wp 400 kX3_addText [(2, [true, true, true])] okX3_addText rfl ⟨_, _, _, rfl⟩ H
set_option maxRecDepth 20000 in
theorem sX3_addText_2 {d : Nat} {R : AR} {h : AH} {r0 : Nat} {r1 : Nat} {x2 : Int}
    (H : ob (isStr r1) (Call wdC d mS_length [vR r1] h (rI fun v2 h1 => (v2 ≤ x2 → R none h1) ∧ (¬ (v2 ≤ x2) → ob (isStr r1) (Call wdC d mS_charAt [vR r1, vI x2] h1 (rI fun v4 h3 => ob (isOb wdC r0 2) (Call wdC d mX3_add [vR r0, vI v4] h3 (rV fun h5 => inR (x2 + 1) ∧ (At wdC (d + 1) mX3_addText 2 [some (vR r0), some (vR r1), some (vI (x2 + 1))] [] h5 R))))))))) : At wdC (d + 1) mX3_addText 2 [some (vR r0), some (vR r1), some (vI x2)] [] h R :=
  At.wp 400 kX3_addText [(2, [true, true, true])] okX3_addText rfl ⟨_, _, _, rfl⟩ H
set_option maxRecDepth 20000 in
theorem sX3_addDecimal {d : Nat} {R : AR} {h : AH} {r : Nat} {x1 : Int}
    (H : At wdC (d + 1) mX3_addDecimal 2 [some (vR r), some (vI x1), some (vI 1)] [] h R) : At wdC (d + 1) mX3_addDecimal 0 [some (vR r), some (vI x1), none] [] h R :=
  At.wp 400 kX3_addDecimal [(2, [true, true, true]), (24, [true, true, true])] okX3_addDecimal rfl ⟨_, _, _, rfl⟩ H
set_option maxRecDepth 20000 in
theorem sX3_addDecimal_2 {d : Nat} {R : AR} {h : AH} {r0 : Nat} {x1 : Int} {x2 : Int}
    (H : ((10 : Int) ≠ 0 ∧ inR (Int.tdiv x1 10)) ∧ (((Int.tdiv x1 10) < x2 → At wdC (d + 1) mX3_addDecimal 24 [some (vR r0), some (vI x1), some (vI x2)] [] h R) ∧ (¬ ((Int.tdiv x1 10) < x2) → (1000000000 ≤ x2 → At wdC (d + 1) mX3_addDecimal 24 [some (vR r0), some (vI x1), some (vI x2)] [] h R) ∧ (¬ (1000000000 ≤ x2) → inR (x2 * 10) ∧ (At wdC (d + 1) mX3_addDecimal 2 [some (vR r0), some (vI x1), some (vI (x2 * 10))] [] h R))))) : At wdC (d + 1) mX3_addDecimal 2 [some (vR r0), some (vI x1), some (vI x2)] [] h R :=
  At.wp 400 kX3_addDecimal [(2, [true, true, true]), (24, [true, true, true])] okX3_addDecimal rfl ⟨_, _, _, rfl⟩ H
set_option maxRecDepth 20000 in
theorem sX3_addDecimal_24 {d : Nat} {R : AR} {h : AH} {r0 : Nat} {x1 : Int} {x2 : Int}
    (H : (x2 ≤ 0 → R none h) ∧ (¬ (x2 ≤ 0) → ((x2 : Int) ≠ 0 ∧ inR (Int.tdiv x1 x2)) ∧ ((10 : Int) ≠ 0 ∧ (inR (48 + (Int.tmod (Int.tdiv x1 x2) 10)) ∧ (ob (isOb wdC r0 2) (Call wdC d mX3_add [vR r0, vI (48 + (Int.tmod (Int.tdiv x1 x2) 10))] h (rV fun h1 => ((10 : Int) ≠ 0 ∧ inR (Int.tdiv x2 10)) ∧ (At wdC (d + 1) mX3_addDecimal 24 [some (vR r0), some (vI x1), some (vI (Int.tdiv x2 10))] [] h1 R)))))))) : At wdC (d + 1) mX3_addDecimal 24 [some (vR r0), some (vI x1), some (vI x2)] [] h R :=
  At.wp 400 kX3_addDecimal [(2, [true, true, true]), (24, [true, true, true])] okX3_addDecimal rfl ⟨_, _, _, rfl⟩ H
set_option maxRecDepth 20000 in
theorem sX3_cut {d : Nat} {R : AR} {h : AH} {r : Nat} {x1 : Int}
    (H : (x1 < 0 → R none h) ∧ (¬ (x1 < 0) → ob (isOb wdC r 2) (((gS h r 1) ≤ x1 → R none h) ∧ (¬ ((gS h r 1) ≤ x1) → ob (isOb wdC r 2) (R none (pS h r 1 x1)))))) : At wdC d mX3_cut 0 [some (vR r), some (vI x1)] [] h R :=
  At.wp 400 kX3_cut [] okX3_cut rfl ⟨_, _, _, rfl⟩ H
set_option maxRecDepth 20000 in
theorem sX3_dropLast {d : Nat} {R : AR} {h : AH} {r : Nat}
    (H : ob (isOb wdC r 2) (((gS h r 1) ≤ 0 → R none h) ∧ (¬ ((gS h r 1) ≤ 0) → ob (isOb wdC r 2) (inR ((gS h r 1) - 1) ∧ (ob (isOb wdC r 2) (R none (pS h r 1 ((gS h r 1) - 1)))))))) : At wdC d mX3_dropLast 0 [some (vR r)] [] h R :=
  At.wp 400 kX3_dropLast [] okX3_dropLast rfl ⟨_, _, _, rfl⟩ H
set_option maxRecDepth 20000 in
theorem sX3_clear {d : Nat} {R : AR} {h : AH} {r : Nat}
    (H : ob (isOb wdC r 2) (R none (pS h r 1 0))) : At wdC d mX3_clear 0 [some (vR r)] [] h R :=
  At.wp 400 kX3_clear [] okX3_clear rfl ⟨_, _, _, rfl⟩ H
set_option maxRecDepth 20000 in
theorem sX3_copy {d : Nat} {R : AR} {h : AH} {r : Nat} {r1 : Nat}
    (H : ob (isOb wdC r 2) (At wdC (d + 1) mX3_copy 7 [some (vR r), some (vR r1), some (vI 0)] [] (pS h r 1 0) R)) : At wdC (d + 1) mX3_copy 0 [some (vR r), some (vR r1), none] [] h R :=
  At.wp 400 kX3_copy [(7, [true, true, true])] okX3_copy rfl ⟨_, _, _, rfl⟩ H
set_option maxRecDepth 20000 in
theorem sX3_copy_7 {d : Nat} {R : AR} {h : AH} {r0 : Nat} {r1 : Nat} {x2 : Int}
    (H : ob (isOb wdC r1 2) (((gS h r1 1) ≤ x2 → R none h) ∧ (¬ ((gS h r1 1) ≤ x2) → ob (isOb wdC r1 2) (Call wdC d mX3_get [vR r1, vI x2] h (rI fun v2 h1 => ob (isOb wdC r0 2) (Call wdC d mX3_add [vR r0, vI v2] h1 (rV fun h3 => inR (x2 + 1) ∧ (At wdC (d + 1) mX3_copy 7 [some (vR r0), some (vR r1), some (vI (x2 + 1))] [] h3 R)))))))) : At wdC (d + 1) mX3_copy 7 [some (vR r0), some (vR r1), some (vI x2)] [] h R :=
  At.wp 400 kX3_copy [(7, [true, true, true])] okX3_copy rfl ⟨_, _, _, rfl⟩ H
set_option maxRecDepth 20000 in
theorem sX4_behind {d : Nat} {R : AR} {h : AH} 
    (H : R (some (vI (gS h 21 5))) h) : At wdC d mX4_behind 0 [some (vR 21)] [] h R :=
  At.wp 400 kX4_behind [] okX4_behind rfl ⟨_, _, _, rfl⟩ H
set_option maxRecDepth 20000 in
theorem sX4_unfolded {d : Nat} {R : AR} {h : AH} 
    (H : R (some (vR 22)) h) : At wdC d mX4_unfolded 0 [some (vR 21)] [] h R :=
  At.wp 400 kX4_unfolded [] okX4_unfolded rfl ⟨_, _, _, rfl⟩ H
set_option maxRecDepth 20000 in
theorem sX4_needsQuotes {d : Nat} {R : AR} {h : AH} 
    (H : Call wdC d mX3_size [vR 3] h (rI fun v2 h1 => Call wdC d mX7_wordEnd [vR 3, vI 0] h1 (rI fun v4 h3 => (v4 ≠ v2 → R (some (vI 1)) h3) ∧ (¬ (v4 ≠ v2) → Call wdC d mX7_isSame [vR 3, vI 0, vI v2, vR 1038] h3 (rI fun v6 h5 => (v6 ≠ 0 → R (some (vI 1)) h5) ∧ (¬ (v6 ≠ 0) → Call wdC d mX7_isSame [vR 3, vI 0, vI v2, vR 1039] h5 (rI fun v8 h7 => (v8 ≠ 0 → R (some (vI 1)) h7) ∧ (¬ (v8 ≠ 0) → Call wdC d mX5_isAt [vR 24, vR 3, vI 0, vI 1, vI 1] h7 (rI fun v10 h9 => (v10 = 0 → R (some (vI 0)) h9) ∧ (¬ (v10 = 0) → R (some (vI 1)) h9)))))))))) : At wdC (d + 1) mX4_needsQuotes 0 [some (vR 21), none] [] h R :=
  At.wp 400 kX4_needsQuotes [] okX4_needsQuotes rfl ⟨_, _, _, rfl⟩ H
set_option maxRecDepth 20000 in
theorem sX4_digitsEnd {d : Nat} {R : AR} {h : AH} {x1 : Int}
    (H : At wdC (d + 1) mX4_digitsEnd 2 [some (vR 21), none, some (vI x1)] [] h R) : At wdC (d + 1) mX4_digitsEnd 0 [some (vR 21), some (vI x1), none] [] h R :=
  At.wp 400 kX4_digitsEnd [(2, [true, false, true])] okX4_digitsEnd rfl ⟨_, _, _, rfl⟩ H
set_option maxRecDepth 20000 in
theorem sX4_digitsEnd_2 {d : Nat} {R : AR} {h : AH} {x2 : Int}
    (H : Call wdC d mX3_size [vR 3] h (rI fun v2 h1 => (v2 ≤ x2 → R (some (vI x2)) h1) ∧ (¬ (v2 ≤ x2) → Call wdC d mX3_get [vR 3, vI x2] h1 (rI fun v4 h3 => Call wdC d mX7_isDigit [vI v4] h3 (rI fun v6 h5 => (v6 = 0 → R (some (vI x2)) h5) ∧ (¬ (v6 = 0) → inR (x2 + 1) ∧ (At wdC (d + 1) mX4_digitsEnd 2 [some (vR 21), none, some (vI (x2 + 1))] [] h5 R))))))) : At wdC (d + 1) mX4_digitsEnd 2 [some (vR 21), none, some (vI x2)] [] h R :=
  At.wp 400 kX4_digitsEnd [(2, [true, false, true])] okX4_digitsEnd rfl ⟨_, _, _, rfl⟩ H
set_option maxRecDepth 20000 in
theorem sX4_readNumber {d : Nat} {R : AR} {h : AH} {x1 : Int} {x2 : Int}
    (H : Call wdC d mX4_digitsEnd [vR 21, vI x1] h (rI fun v2 h1 => Call wdC d mX3_get [vR 3, vI v2] h1 (rI fun v4 h3 => (v4 ≠ 46 → (v2 ≤ x1 → R (some (vI 0)) h3) ∧ (¬ (v2 ≤ x1) → Call wdC d mX4_readExponent [vR 21, vI v2] h3 (rI fun v6 h5 => Call wdC d mX4_writeNumber [vR 21, vI x1, vI v2, vI v2, vI v6, vI x2] h5 (rI fun v8 h7 => (v8 = 0 → R (some (vI 0)) h7) ∧ (¬ (v8 = 0) → R (some (vI 1)) h7))))) ∧ (¬ (v4 ≠ 46) → inR (v2 + 1) ∧ (Call wdC d mX3_get [vR 3, vI (v2 + 1)] h3 (rI fun v10 h9 => Call wdC d mX7_isDigit [vI v10] h9 (rI fun v12 h11 => (v12 = 0 → (v2 ≤ x1 → R (some (vI 0)) h11) ∧ (¬ (v2 ≤ x1) → Call wdC d mX4_readExponent [vR 21, vI v2] h11 (rI fun v14 h13 => Call wdC d mX4_writeNumber [vR 21, vI x1, vI v2, vI v2, vI v14, vI x2] h13 (rI fun v16 h15 => (v16 = 0 → R (some (vI 0)) h15) ∧ (¬ (v16 = 0) → R (some (vI 1)) h15))))) ∧ (¬ (v12 = 0) → inR (v2 + 1) ∧ (Call wdC d mX4_digitsEnd [vR 21, vI (v2 + 1)] h11 (rI fun v18 h17 => (v18 ≤ x1 → R (some (vI 0)) h17) ∧ (¬ (v18 ≤ x1) → Call wdC d mX4_readExponent [vR 21, vI v18] h17 (rI fun v20 h19 => Call wdC d mX4_writeNumber [vR 21, vI x1, vI v2, vI v18, vI v20, vI x2] h19 (rI fun v22 h21 => (v22 = 0 → R (some (vI 0)) h21) ∧ (¬ (v22 = 0) → R (some (vI 1)) h21)))))))))))))) : At wdC (d + 1) mX4_readNumber 0 [some (vR 21), some (vI x1), some (vI x2), none, none] [] h R :=
  At.wp 400 kX4_readNumber [] okX4_readNumber rfl ⟨_, _, _, rfl⟩ H
set_option maxRecDepth 20000 in
theorem sX4_readExponent {d : Nat} {R : AR} {h : AH} {x1 : Int}
    (H : Call wdC d mX3_get [vR 3, vI x1] (pS h 21 5 x1) (rI fun v2 h1 => Call wdC d mX7_capital [vI v2] h1 (rI fun v4 h3 => (v4 = 69 → inR (x1 + 1) ∧ (Call wdC d mX3_get [vR 3, vI (x1 + 1)] h3 (rI fun v6 h5 => (v6 = 43 → inR (x1 + 2) ∧ (At wdC (d + 1) mX4_readExponent 62 [some (vR 21), none, some (vI v6), some (vI (x1 + 2)), some (vI 0), some (vI (x1 + 2))] [] h5 R)) ∧ (¬ (v6 = 43) → (v6 ≠ 45 → inR (x1 + 1) ∧ (At wdC (d + 1) mX4_readExponent 62 [some (vR 21), none, some (vI v6), some (vI (x1 + 1)), some (vI 0), some (vI (x1 + 1))] [] h5 R)) ∧ (¬ (v6 ≠ 45) → inR (x1 + 2) ∧ (At wdC (d + 1) mX4_readExponent 62 [some (vR 21), none, some (vI v6), some (vI (x1 + 2)), some (vI 0), some (vI (x1 + 2))] [] h5 R)))))) ∧ (¬ (v4 = 69) → R (some (vI 0)) h3)))) : At wdC (d + 1) mX4_readExponent 0 [some (vR 21), some (vI x1), none, none, none, none] [] h R :=
  At.wp 400 kX4_readExponent [(62, [true, false, true, true, true, true])] okX4_readExponent rfl ⟨_, _, _, rfl⟩ H
set_option maxRecDepth 20000 in
theorem sX4_readExponent_62 {d : Nat} {R : AR} {h : AH} {x2 : Int} {x3 : Int} {x4 : Int} {x5 : Int}
    (H : inR (x3 + 3) ∧ (((x3 + 3) ≤ x5 → (x2 ≠ 45 → R (some (vI x4)) h) ∧ (¬ (x2 ≠ 45) → inR (-x4) ∧ (R (some (vI (-x4))) h))) ∧ (¬ ((x3 + 3) ≤ x5) → Call wdC d mX3_get [vR 3, vI x5] h (rI fun v8 h7 => Call wdC d mX7_isDigit [vI v8] h7 (rI fun v10 h9 => (v10 = 0 → (x2 ≠ 45 → R (some (vI x4)) h9) ∧ (¬ (x2 ≠ 45) → inR (-x4) ∧ (R (some (vI (-x4))) h9))) ∧ (¬ (v10 = 0) → inR (x4 * 10) ∧ (Call wdC d mX3_get [vR 3, vI x5] h9 (rI fun v12 h11 => inR ((x4 * 10) + v12) ∧ (inR (((x4 * 10) + v12) - 48) ∧ (inR (x5 + 1) ∧ (inR (x5 + 1) ∧ (At wdC (d + 1) mX4_readExponent 62 [some (vR 21), none, some (vI x2), some (vI x3), some (vI (((x4 * 10) + v12) - 48)), some (vI (x5 + 1))] [] (pS h11 21 5 (x5 + 1)) R)))))))))))) : At wdC (d + 1) mX4_readExponent 62 [some (vR 21), none, some (vI x2), some (vI x3), some (vI x4), some (vI x5)] [] h R :=
  At.wp 400 kX4_readExponent [(62, [true, false, true, true, true, true])] okX4_readExponent rfl ⟨_, _, _, rfl⟩ H
set_option maxRecDepth 20000 in
theorem sX4_writeNumber {d : Nat} {R : AR} {h : AH} {x1 : Int} {x2 : Int} {x3 : Int} {x4 : Int} {x5 : Int}
    (H : At wdC (d + 1) mX4_writeNumber 3 [some (vR 21), none, some (vI x2), some (vI x3), some (vI x4), some (vI x5), some (vI x1), none, none, none, none, none, none, none] [] h R) : At wdC (d + 1) mX4_writeNumber 0 [some (vR 21), some (vI x1), some (vI x2), some (vI x3), some (vI x4), some (vI x5), none, none, none, none, none, none, none, none] [] h R :=
  At.wp 400 kX4_writeNumber [(3, [true, false, true, true, true, true, true, false, false, false, false, false, false, false]), (48, [true, false, true, true, true, true, true, true, false, false, false, false, false, false]), (102, [true, false, true, false, true, true, true, true, true, false, false, false, false, false]), (157, [true, false, true, false, false, true, true, true, true, false, true, false, false, false]), (164, [true, false, true, false, false, true, false, true, true, false, true, true, false, true])] okX4_writeNumber rfl ⟨_, _, _, rfl⟩ H
set_option maxRecDepth 20000 in
theorem sX4_writeNumber_3 {d : Nat} {R : AR} {h : AH} {x2 : Int} {x3 : Int} {x4 : Int} {x5 : Int} {x6 : Int}
    (H : (x3 ≤ x6 → inR (x3 - 1) ∧ (At wdC (d + 1) mX4_writeNumber 48 [some (vR 21), none, some (vI x2), some (vI x3), some (vI x4), some (vI x5), some (vI x6), some (vI (x3 - 1)), none, none, none, none, none, none] [] h R)) ∧ (¬ (x3 ≤ x6) → Call wdC d mX3_get [vR 3, vI x6] h (rI fun v2 h1 => (v2 = 48 → inR (x6 + 1) ∧ (At wdC (d + 1) mX4_writeNumber 3 [some (vR 21), none, some (vI x2), some (vI x3), some (vI x4), some (vI x5), some (vI (x6 + 1)), none, none, none, none, none, none, none] [] h1 R)) ∧ (¬ (v2 = 48) → Call wdC d mX3_get [vR 3, vI x6] h1 (rI fun v4 h3 => (v4 ≠ 46 → inR (x3 - 1) ∧ (At wdC (d + 1) mX4_writeNumber 48 [some (vR 21), none, some (vI x2), some (vI x3), some (vI x4), some (vI x5), some (vI x6), some (vI (x3 - 1)), none, none, none, none, none, none] [] h3 R)) ∧ (¬ (v4 ≠ 46) → inR (x6 + 1) ∧ (At wdC (d + 1) mX4_writeNumber 3 [some (vR 21), none, some (vI x2), some (vI x3), some (vI x4), some (vI x5), some (vI (x6 + 1)), none, none, none, none, none, none, none] [] h3 R))))))) : At wdC (d + 1) mX4_writeNumber 3 [some (vR 21), none, some (vI x2), some (vI x3), some (vI x4), some (vI x5), some (vI x6), none, none, none, none, none, none, none] [] h R :=
  At.wp 400 kX4_writeNumber [(3, [true, false, true, true, true, true, true, false, false, false, false, false, false, false]), (48, [true, false, true, true, true, true, true, true, false, false, false, false, false, false]), (102, [true, false, true, false, true, true, true, true, true, false, false, false, false, false]), (157, [true, false, true, false, false, true, true, true, true, false, true, false, false, false]), (164, [true, false, true, false, false, true, false, true, true, false, true, true, false, true])] okX4_writeNumber rfl ⟨_, _, _, rfl⟩ H
set_option maxRecDepth 20000 in
theorem sX4_writeNumber_48 {d : Nat} {R : AR} {h : AH} {x2 : Int} {x3 : Int} {x4 : Int} {x5 : Int} {x6 : Int} {x7 : Int}
    (H : (x7 ≤ x6 → (x6 ≠ x3 → At wdC (d + 1) mX4_writeNumber 102 [some (vR 21), none, some (vI x2), none, some (vI x4), some (vI x5), some (vI x6), some (vI x7), some (vI 0), none, none, none, none, none] [] h R) ∧ (¬ (x6 ≠ x3) → At wdC (d + 1) mX4_writeNumber 102 [some (vR 21), none, some (vI x2), none, some (vI x4), some (vI x5), some (vI x6), some (vI x7), some (vI 1), none, none, none, none, none] [] h R)) ∧ (¬ (x7 ≤ x6) → Call wdC d mX3_get [vR 3, vI x7] h (rI fun v6 h5 => (v6 = 48 → inR (x7 + (-1)) ∧ (At wdC (d + 1) mX4_writeNumber 48 [some (vR 21), none, some (vI x2), some (vI x3), some (vI x4), some (vI x5), some (vI x6), some (vI (x7 + (-1))), none, none, none, none, none, none] [] h5 R)) ∧ (¬ (v6 = 48) → Call wdC d mX3_get [vR 3, vI x7] h5 (rI fun v8 h7 => (v8 ≠ 46 → (x6 ≠ x3 → At wdC (d + 1) mX4_writeNumber 102 [some (vR 21), none, some (vI x2), none, some (vI x4), some (vI x5), some (vI x6), some (vI x7), some (vI 0), none, none, none, none, none] [] h7 R) ∧ (¬ (x6 ≠ x3) → At wdC (d + 1) mX4_writeNumber 102 [some (vR 21), none, some (vI x2), none, some (vI x4), some (vI x5), some (vI x6), some (vI x7), some (vI 1), none, none, none, none, none] [] h7 R)) ∧ (¬ (v8 ≠ 46) → inR (x7 + (-1)) ∧ (At wdC (d + 1) mX4_writeNumber 48 [some (vR 21), none, some (vI x2), some (vI x3), some (vI x4), some (vI x5), some (vI x6), some (vI (x7 + (-1))), none, none, none, none, none, none] [] h7 R))))))) : At wdC (d + 1) mX4_writeNumber 48 [some (vR 21), none, some (vI x2), some (vI x3), some (vI x4), some (vI x5), some (vI x6), some (vI x7), none, none, none, none, none, none] [] h R :=
  At.wp 400 kX4_writeNumber [(3, [true, false, true, true, true, true, true, false, false, false, false, false, false, false]), (48, [true, false, true, true, true, true, true, true, false, false, false, false, false, false]), (102, [true, false, true, false, true, true, true, true, true, false, false, false, false, false]), (157, [true, false, true, false, false, true, true, true, true, false, true, false, false, false]), (164, [true, false, true, false, false, true, false, true, true, false, true, true, false, true])] okX4_writeNumber rfl ⟨_, _, _, rfl⟩ H
set_option maxRecDepth 20000 in
theorem sX4_writeNumber_102 {d : Nat} {R : AR} {h : AH} {x2 : Int} {x4 : Int} {x5 : Int} {x6 : Int} {x7 : Int} {x8 : Int}
    (H : Call wdC d mX4_powerAt [vI x6, vI x2] h (rI fun v10 h9 => inR (v10 + x4) ∧ (Call wdC d mX4_powerAt [vI x7, vI x2] h9 (rI fun v12 h11 => inR (v12 + x4) ∧ ((x8 ≠ 0 → At wdC (d + 1) mX4_writeNumber 157 [some (vR 21), none, some (vI x2), none, none, some (vI x5), some (vI x6), some (vI x7), some (vI x8), none, some (vI (v12 + x4)), none, none, none] [] h11 R) ∧ (¬ (x8 ≠ 0) → inR ((v10 + x4) - (v12 + x4)) ∧ ((15 ≤ ((v10 + x4) - (v12 + x4)) → R (some (vI 0)) h11) ∧ (¬ (15 ≤ ((v10 + x4) - (v12 + x4))) → ((v10 + x4) < (-999) → R (some (vI 0)) h11) ∧ (¬ ((v10 + x4) < (-999)) → ((v10 + x4) ≤ 999 → At wdC (d + 1) mX4_writeNumber 157 [some (vR 21), none, some (vI x2), none, none, some (vI x5), some (vI x6), some (vI x7), some (vI x8), none, some (vI (v12 + x4)), none, none, none] [] h11 R) ∧ (¬ ((v10 + x4) ≤ 999) → R (some (vI 0)) h11)))))))))) : At wdC (d + 1) mX4_writeNumber 102 [some (vR 21), none, some (vI x2), none, some (vI x4), some (vI x5), some (vI x6), some (vI x7), some (vI x8), none, none, none, none, none] [] h R :=
  At.wp 400 kX4_writeNumber [(3, [true, false, true, true, true, true, true, false, false, false, false, false, false, false]), (48, [true, false, true, true, true, true, true, true, false, false, false, false, false, false]), (102, [true, false, true, false, true, true, true, true, true, false, false, false, false, false]), (157, [true, false, true, false, false, true, true, true, true, false, true, false, false, false]), (164, [true, false, true, false, false, true, false, true, true, false, true, true, false, true])] okX4_writeNumber rfl ⟨_, _, _, rfl⟩ H
set_option maxRecDepth 20000 in
theorem sX4_writeNumber_157 {d : Nat} {R : AR} {h : AH} {x2 : Int} {x5 : Int} {x6 : Int} {x7 : Int} {x8 : Int} {x10 : Int}
    (H : At wdC (d + 1) mX4_writeNumber 164 [some (vR 21), none, some (vI x2), none, none, some (vI x5), none, some (vI x7), some (vI x8), none, some (vI x10), some (vJ 0), none, some (vI x6)] [] h R) : At wdC (d + 1) mX4_writeNumber 157 [some (vR 21), none, some (vI x2), none, none, some (vI x5), some (vI x6), some (vI x7), some (vI x8), none, some (vI x10), none, none, none] [] h R :=
  At.wp 400 kX4_writeNumber [(3, [true, false, true, true, true, true, true, false, false, false, false, false, false, false]), (48, [true, false, true, true, true, true, true, true, false, false, false, false, false, false]), (102, [true, false, true, false, true, true, true, true, true, false, false, false, false, false]), (157, [true, false, true, false, false, true, true, true, true, false, true, false, false, false]), (164, [true, false, true, false, false, true, false, true, true, false, true, true, false, true])] okX4_writeNumber rfl ⟨_, _, _, rfl⟩ H
set_option maxRecDepth 20000 in
theorem sX4_writeNumber_164 {d : Nat} {R : AR} {h : AH} {x2 : Int} {x5 : Int} {x7 : Int} {x8 : Int} {x10 : Int} {x11 : Int} {x13 : Int}
    (H : (x7 < x13 → Call wdC d mX7_item [vI 0, vI x5] h (rI fun v14 h13 => Call wdC d mX3_add [vR 9, vI v14] h13 (rV fun h15 => inR (shrJ x11 30) ∧ (Call wdC d mX3_add [vR 9, vI (shrJ x11 30)] h15 (rV fun h16 => inR (andJ x11 1073741823) ∧ (Call wdC d mX3_add [vR 9, vI (andJ x11 1073741823)] h16 (rV fun h17 => (x8 = 0 → Call wdC d mX3_add [vR 9, vI x10] h17 (rV fun h18 => R (some (vI 1)) h18)) ∧ (¬ (x8 = 0) → Call wdC d mX3_add [vR 9, vI 0] h17 (rV fun h19 => R (some (vI 1)) h19))))))))) ∧ (¬ (x7 < x13) → (x13 = x2 → inR (x13 + 1) ∧ (At wdC (d + 1) mX4_writeNumber 164 [some (vR 21), none, some (vI x2), none, none, some (vI x5), none, some (vI x7), some (vI x8), none, some (vI x10), some (vJ x11), none, some (vI (x13 + 1))] [] h R)) ∧ (¬ (x13 = x2) → inJ (x11 * 10) ∧ (Call wdC d mX3_get [vR 3, vI x13] h (rI fun v21 h20 => inJ ((x11 * 10) + v21) ∧ (inJ (((x11 * 10) + v21) - 48) ∧ (inR (x13 + 1) ∧ (At wdC (d + 1) mX4_writeNumber 164 [some (vR 21), none, some (vI x2), none, none, some (vI x5), none, some (vI x7), some (vI x8), none, some (vI x10), some (vJ (((x11 * 10) + v21) - 48)), none, some (vI (x13 + 1))] [] h20 R)))))))) : At wdC (d + 1) mX4_writeNumber 164 [some (vR 21), none, some (vI x2), none, none, some (vI x5), none, some (vI x7), some (vI x8), none, some (vI x10), some (vJ x11), none, some (vI x13)] [] h R :=
  At.wp 400 kX4_writeNumber [(3, [true, false, true, true, true, true, true, false, false, false, false, false, false, false]), (48, [true, false, true, true, true, true, true, true, false, false, false, false, false, false]), (102, [true, false, true, false, true, true, true, true, true, false, false, false, false, false]), (157, [true, false, true, false, false, true, true, true, true, false, true, false, false, false]), (164, [true, false, true, false, false, true, false, true, true, false, true, true, false, true])] okX4_writeNumber rfl ⟨_, _, _, rfl⟩ H
set_option maxRecDepth 20000 in
theorem sX4_powerAt {d : Nat} {R : AR} {h : AH} {x0 : Int} {x1 : Int}
    (H : (x1 ≤ x0 → inR (x1 - x0) ∧ (R (some (vI (x1 - x0))) h)) ∧ (¬ (x1 ≤ x0) → inR (x1 - 1) ∧ (inR ((x1 - 1) - x0) ∧ (R (some (vI ((x1 - 1) - x0))) h)))) : At wdC d mX4_powerAt 0 [some (vI x0), some (vI x1)] [] h R :=
  At.wp 400 kX4_powerAt [] okX4_powerAt rfl ⟨_, _, _, rfl⟩ H
set_option maxRecDepth 20000 in
theorem sX4_readQuoted {d : Nat} {R : AR} {h : AH} {x1 : Int}
    (H : Call wdC d mX3_get [vR 3, vI x1] h (rI fun v2 h1 => Call wdC d mX3_clear [vR 22] h1 (rV fun h3 => inR (x1 + 1) ∧ (At wdC (d + 1) mX4_readQuoted 23 [some (vR 21), none, some (vI v2), some (vI 0), some (vI (x1 + 1)), none] [] h3 R)))) : At wdC (d + 1) mX4_readQuoted 0 [some (vR 21), some (vI x1), none, none, none, none] [] h R :=
  At.wp 400 kX4_readQuoted [(23, [true, false, true, true, true, false])] okX4_readQuoted rfl ⟨_, _, _, rfl⟩ H
set_option maxRecDepth 20000 in
theorem sX4_readQuoted_23 {d : Nat} {R : AR} {h : AH} {x2 : Int} {x3 : Int} {x4 : Int}
    (H : Call wdC d mX3_size [vR 3] h (rI fun v5 h4 => (v5 ≤ x4 → R (some (vI 0)) h4) ∧ (¬ (v5 ≤ x4) → Call wdC d mX3_get [vR 3, vI x4] h4 (rI fun v7 h6 => (v7 ≠ x2 → (v7 < 32 → R (some (vI 0)) h6) ∧ (¬ (v7 < 32) → (v7 ≤ 126 → Call wdC d mX3_add [vR 22, vI v7] h6 (rV fun h8 => inR (x3 + 1) ∧ (inR (x4 + 1) ∧ (At wdC (d + 1) mX4_readQuoted 23 [some (vR 21), none, some (vI x2), some (vI (x3 + 1)), some (vI (x4 + 1)), none] [] h8 R)))) ∧ (¬ (v7 ≤ 126) → R (some (vI 0)) h6))) ∧ (¬ (v7 ≠ x2) → inR (x4 + 1) ∧ (Call wdC d mX3_get [vR 3, vI (x4 + 1)] h6 (rI fun v10 h9 => (v10 = x2 → (v7 < 32 → R (some (vI 0)) h9) ∧ (¬ (v7 < 32) → (v7 ≤ 126 → Call wdC d mX3_add [vR 22, vI v7] h9 (rV fun h11 => inR (x3 + 1) ∧ (inR ((x4 + 1) + 1) ∧ (At wdC (d + 1) mX4_readQuoted 23 [some (vR 21), none, some (vI x2), some (vI (x3 + 1)), some (vI ((x4 + 1) + 1)), none] [] h11 R)))) ∧ (¬ (v7 ≤ 126) → R (some (vI 0)) h9))) ∧ (¬ (v10 = x2) → (255 < x3 → R (some (vI 0)) (pS h9 21 5 (x4 + 1))) ∧ (¬ (255 < x3) → R (some (vI 1)) (pS h9 21 5 (x4 + 1))))))))))) : At wdC (d + 1) mX4_readQuoted 23 [some (vR 21), none, some (vI x2), some (vI x3), some (vI x4), none] [] h R :=
  At.wp 400 kX4_readQuoted [(23, [true, false, true, true, true, false])] okX4_readQuoted rfl ⟨_, _, _, rfl⟩ H
set_option maxRecDepth 20000 in
theorem sX4_readString {d : Nat} {R : AR} {h : AH} {x1 : Int}
    (H : Call wdC d mX4_readQuoted [vR 21, vI x1] h (rI fun v2 h1 => (v2 ≠ 0 → Call wdC d mX3_size [vR 22] h1 (rI fun v4 h3 => Call wdC d mX7_item [vI 1, vI v4] h3 (rI fun v6 h5 => Call wdC d mX3_add [vR 9, vI v6] h5 (rV fun h7 => At wdC (d + 1) mX4_readString 30 [some (vR 21), none, some (vI 0), none] [] h7 R)))) ∧ (¬ (v2 ≠ 0) → R (some (vI 0)) h1))) : At wdC (d + 1) mX4_readString 0 [some (vR 21), some (vI x1), none, none] [] h R :=
  At.wp 400 kX4_readString [(30, [true, false, true, false])] okX4_readString rfl ⟨_, _, _, rfl⟩ H
set_option maxRecDepth 20000 in
theorem sX4_readString_30 {d : Nat} {R : AR} {h : AH} {x2 : Int}
    (H : Call wdC d mX3_size [vR 22] h (rI fun v9 h8 => (v9 ≤ x2 → R (some (vI 1)) h8) ∧ (¬ (v9 ≤ x2) → Call wdC d mX3_get [vR 22, vI x2] h8 (rI fun v11 h10 => inR (x2 + 1) ∧ (Call wdC d mX3_get [vR 22, vI (x2 + 1)] h10 (rI fun v13 h12 => inR (x2 + 2) ∧ (Call wdC d mX3_get [vR 22, vI (x2 + 2)] h12 (rI fun v15 h14 => inR (x2 + 3) ∧ (Call wdC d mX3_get [vR 22, vI (x2 + 3)] h14 (rI fun v17 h16 => Call wdC d mX3_add [vR 9, vI (orI (orI (orI (shlI v11 24) (shlI v13 16)) (shlI v15 8)) v17)] h16 (rV fun h18 => inR (x2 + 4) ∧ (At wdC (d + 1) mX4_readString 30 [some (vR 21), none, some (vI (x2 + 4)), none] [] h18 R)))))))))))) : At wdC (d + 1) mX4_readString 30 [some (vR 21), none, some (vI x2), none] [] h R :=
  At.wp 400 kX4_readString [(30, [true, false, true, false])] okX4_readString rfl ⟨_, _, _, rfl⟩ H
set_option maxRecDepth 20000 in
theorem sX4_readError {d : Nat} {R : AR} {h : AH} {x1 : Int}
    (H : At wdC (d + 1) mX4_readError 2 [some (vR 21), some (vI x1), some (vI 1)] [] h R) : At wdC (d + 1) mX4_readError 0 [some (vR 21), some (vI x1), none] [] h R :=
  At.wp 400 kX4_readError [(2, [true, true, true])] okX4_readError rfl ⟨_, _, _, rfl⟩ H
set_option maxRecDepth 20000 in
theorem sX4_readError_2 {d : Nat} {R : AR} {h : AH} {x1 : Int} {x2 : Int}
    (H : (7 < x2 → R (some (vI 0)) h) ∧ (¬ (7 < x2) → Call wdC d mX7_errorText [vI x2] h (rR fun q2 h1 => Call wdC d mX7_startsWith [vR 3, vI x1, vR q2] h1 (rI fun v4 h3 => (v4 = 0 → inR (x2 + 1) ∧ (At wdC (d + 1) mX4_readError 2 [some (vR 21), some (vI x1), some (vI (x2 + 1))] [] h3 R)) ∧ (¬ (v4 = 0) → Call wdC d mX7_item [vI 3, vI x2] h3 (rI fun v6 h5 => Call wdC d mX3_add [vR 9, vI v6] h5 (rV fun h7 => Call wdC d mX7_errorText [vI x2] h7 (rR fun q9 h8 => ob (isStr q9) (Call wdC d mS_length [vR q9] h8 (rI fun v11 h10 => inR (x1 + v11) ∧ (R (some (vI 1)) (pS h10 21 5 (x1 + v11))))))))))))) : At wdC (d + 1) mX4_readError 2 [some (vR 21), some (vI x1), some (vI x2)] [] h R :=
  At.wp 400 kX4_readError [(2, [true, true, true])] okX4_readError rfl ⟨_, _, _, rfl⟩ H
set_option maxRecDepth 20000 in
theorem sX4_readLogical {d : Nat} {R : AR} {h : AH} {x1 : Int} {x2 : Int}
    (H : Call wdC d mX7_isSame [vR 3, vI x1, vI x2, vR 1038] h (rI fun v2 h1 => (v2 ≠ 0 → (v2 = 0 → Call wdC d mX7_item [vI 2, vI 0] h1 (rI fun v4 h3 => Call wdC d mX3_add [vR 9, vI v4] h3 (rV fun h5 => R (some (vI 1)) (pS h5 21 5 x2)))) ∧ (¬ (v2 = 0) → Call wdC d mX7_item [vI 2, vI 1] h1 (rI fun v7 h6 => Call wdC d mX3_add [vR 9, vI v7] h6 (rV fun h8 => R (some (vI 1)) (pS h8 21 5 x2))))) ∧ (¬ (v2 ≠ 0) → Call wdC d mX7_isSame [vR 3, vI x1, vI x2, vR 1039] h1 (rI fun v10 h9 => (v10 ≠ 0 → (v2 = 0 → Call wdC d mX7_item [vI 2, vI 0] h9 (rI fun v12 h11 => Call wdC d mX3_add [vR 9, vI v12] h11 (rV fun h13 => R (some (vI 1)) (pS h13 21 5 x2)))) ∧ (¬ (v2 = 0) → Call wdC d mX7_item [vI 2, vI 1] h9 (rI fun v15 h14 => Call wdC d mX3_add [vR 9, vI v15] h14 (rV fun h16 => R (some (vI 1)) (pS h16 21 5 x2))))) ∧ (¬ (v10 ≠ 0) → R (some (vI 0)) h9))))) : At wdC (d + 1) mX4_readLogical 0 [some (vR 21), some (vI x1), some (vI x2), none] [] h R :=
  At.wp 400 kX4_readLogical [] okX4_readLogical rfl ⟨_, _, _, rfl⟩ H
set_option maxRecDepth 20000 in
theorem sX4_findReference {d : Nat} {R : AR} {h : AH} {x1 : Int}
    (H : At wdC (d + 1) mX4_findReference 2 [some (vR 21), some (vI x1), some (vI 0), none, none, none] [] h R) : At wdC (d + 1) mX4_findReference 0 [some (vR 21), some (vI x1), none, none, none, none] [] h R :=
  At.wp 400 kX4_findReference [(2, [true, true, true, false, false, false])] okX4_findReference rfl ⟨_, _, _, rfl⟩ H
set_option maxRecDepth 20000 in
theorem sX4_findReference_2 {d : Nat} {R : AR} {h : AH} {x1 : Int} {x2 : Int}
    (H : (32 < x2 → R (some (vI 0)) h) ∧ (¬ (32 < x2) → (x2 = 32 → (x2 = 16 → Call wdC d mX5_isAt [vR 24, vR 3, vI x1, vI 0, vI 0] h (rI fun v2 h1 => (v2 = 0 → inR (x2 + 16) ∧ (At wdC (d + 1) mX4_findReference 2 [some (vR 21), some (vI x1), some (vI (x2 + 16)), none, none, none] [] h1 R)) ∧ (¬ (v2 = 0) → Call wdC d mX3_get [vR 3, vI (gS h1 24 4)] h1 (rI fun v4 h3 => (v4 ≠ 58 → ((0 : Int) ≠ 0 → ((0 : Int) = 0 → R (some (vI 1)) (pS (pS (pS h3 21 7 0) 21 6 x2) 21 5 (gS h1 24 4))) ∧ (¬ ((0 : Int) = 0) → R (some (vI 1)) (pS (pS (pS h3 21 7 0) 21 6 x2) 21 5 (gS h3 25 4)))) ∧ (¬ ((0 : Int) ≠ 0) → (x2 ≠ 0 → inR (x2 + 16) ∧ (At wdC (d + 1) mX4_findReference 2 [some (vR 21), some (vI x1), some (vI (x2 + 16)), none, none, none] [] (pS h3 21 7 0) R)) ∧ (¬ (x2 ≠ 0) → ((0 : Int) = 0 → R (some (vI 1)) (pS (pS (pS h3 21 7 0) 21 6 x2) 21 5 (gS h1 24 4))) ∧ (¬ ((0 : Int) = 0) → R (some (vI 1)) (pS (pS (pS h3 21 7 0) 21 6 x2) 21 5 (gS h3 25 4)))))) ∧ (¬ (v4 ≠ 58) → inR ((gS h1 24 4) + 1) ∧ (Call wdC d mX5_isAt [vR 25, vR 3, vI ((gS h1 24 4) + 1), vI 0, vI 0] h3 (rI fun v6 h5 => (v6 = 0 → ((0 : Int) ≠ 0 → ((0 : Int) = 0 → R (some (vI 1)) (pS (pS (pS h5 21 7 0) 21 6 x2) 21 5 (gS h1 24 4))) ∧ (¬ ((0 : Int) = 0) → R (some (vI 1)) (pS (pS (pS h5 21 7 0) 21 6 x2) 21 5 (gS h5 25 4)))) ∧ (¬ ((0 : Int) ≠ 0) → (x2 ≠ 0 → inR (x2 + 16) ∧ (At wdC (d + 1) mX4_findReference 2 [some (vR 21), some (vI x1), some (vI (x2 + 16)), none, none, none] [] (pS h5 21 7 0) R)) ∧ (¬ (x2 ≠ 0) → ((0 : Int) = 0 → R (some (vI 1)) (pS (pS (pS h5 21 7 0) 21 6 x2) 21 5 (gS h1 24 4))) ∧ (¬ ((0 : Int) = 0) → R (some (vI 1)) (pS (pS (pS h5 21 7 0) 21 6 x2) 21 5 (gS h5 25 4)))))) ∧ (¬ (v6 = 0) → ((1 : Int) ≠ 0 → ((1 : Int) = 0 → R (some (vI 1)) (pS (pS (pS h5 21 7 1) 21 6 x2) 21 5 (gS h1 24 4))) ∧ (¬ ((1 : Int) = 0) → R (some (vI 1)) (pS (pS (pS h5 21 7 1) 21 6 x2) 21 5 (gS h5 25 4)))) ∧ (¬ ((1 : Int) ≠ 0) → (x2 ≠ 0 → inR (x2 + 16) ∧ (At wdC (d + 1) mX4_findReference 2 [some (vR 21), some (vI x1), some (vI (x2 + 16)), none, none, none] [] (pS h5 21 7 1) R)) ∧ (¬ (x2 ≠ 0) → ((1 : Int) = 0 → R (some (vI 1)) (pS (pS (pS h5 21 7 1) 21 6 x2) 21 5 (gS h1 24 4))) ∧ (¬ ((1 : Int) = 0) → R (some (vI 1)) (pS (pS (pS h5 21 7 1) 21 6 x2) 21 5 (gS h5 25 4))))))))))))) ∧ (¬ (x2 = 16) → Call wdC d mX5_isAt [vR 24, vR 3, vI x1, vI 0, vI 1] h (rI fun v8 h7 => (v8 = 0 → inR (x2 + 16) ∧ (At wdC (d + 1) mX4_findReference 2 [some (vR 21), some (vI x1), some (vI (x2 + 16)), none, none, none] [] h7 R)) ∧ (¬ (v8 = 0) → Call wdC d mX3_get [vR 3, vI (gS h7 24 4)] h7 (rI fun v10 h9 => (v10 ≠ 58 → ((0 : Int) ≠ 0 → ((0 : Int) = 0 → R (some (vI 1)) (pS (pS (pS h9 21 7 0) 21 6 x2) 21 5 (gS h7 24 4))) ∧ (¬ ((0 : Int) = 0) → R (some (vI 1)) (pS (pS (pS h9 21 7 0) 21 6 x2) 21 5 (gS h9 25 4)))) ∧ (¬ ((0 : Int) ≠ 0) → (x2 ≠ 0 → inR (x2 + 16) ∧ (At wdC (d + 1) mX4_findReference 2 [some (vR 21), some (vI x1), some (vI (x2 + 16)), none, none, none] [] (pS h9 21 7 0) R)) ∧ (¬ (x2 ≠ 0) → ((0 : Int) = 0 → R (some (vI 1)) (pS (pS (pS h9 21 7 0) 21 6 x2) 21 5 (gS h7 24 4))) ∧ (¬ ((0 : Int) = 0) → R (some (vI 1)) (pS (pS (pS h9 21 7 0) 21 6 x2) 21 5 (gS h9 25 4)))))) ∧ (¬ (v10 ≠ 58) → inR ((gS h7 24 4) + 1) ∧ (Call wdC d mX5_isAt [vR 25, vR 3, vI ((gS h7 24 4) + 1), vI 0, vI 1] h9 (rI fun v12 h11 => (v12 = 0 → ((0 : Int) ≠ 0 → ((0 : Int) = 0 → R (some (vI 1)) (pS (pS (pS h11 21 7 0) 21 6 x2) 21 5 (gS h7 24 4))) ∧ (¬ ((0 : Int) = 0) → R (some (vI 1)) (pS (pS (pS h11 21 7 0) 21 6 x2) 21 5 (gS h11 25 4)))) ∧ (¬ ((0 : Int) ≠ 0) → (x2 ≠ 0 → inR (x2 + 16) ∧ (At wdC (d + 1) mX4_findReference 2 [some (vR 21), some (vI x1), some (vI (x2 + 16)), none, none, none] [] (pS h11 21 7 0) R)) ∧ (¬ (x2 ≠ 0) → ((0 : Int) = 0 → R (some (vI 1)) (pS (pS (pS h11 21 7 0) 21 6 x2) 21 5 (gS h7 24 4))) ∧ (¬ ((0 : Int) = 0) → R (some (vI 1)) (pS (pS (pS h11 21 7 0) 21 6 x2) 21 5 (gS h11 25 4)))))) ∧ (¬ (v12 = 0) → ((1 : Int) ≠ 0 → ((1 : Int) = 0 → R (some (vI 1)) (pS (pS (pS h11 21 7 1) 21 6 x2) 21 5 (gS h7 24 4))) ∧ (¬ ((1 : Int) = 0) → R (some (vI 1)) (pS (pS (pS h11 21 7 1) 21 6 x2) 21 5 (gS h11 25 4)))) ∧ (¬ ((1 : Int) ≠ 0) → (x2 ≠ 0 → inR (x2 + 16) ∧ (At wdC (d + 1) mX4_findReference 2 [some (vR 21), some (vI x1), some (vI (x2 + 16)), none, none, none] [] (pS h11 21 7 1) R)) ∧ (¬ (x2 ≠ 0) → ((1 : Int) = 0 → R (some (vI 1)) (pS (pS (pS h11 21 7 1) 21 6 x2) 21 5 (gS h7 24 4))) ∧ (¬ ((1 : Int) = 0) → R (some (vI 1)) (pS (pS (pS h11 21 7 1) 21 6 x2) 21 5 (gS h11 25 4)))))))))))))) ∧ (¬ (x2 = 32) → (x2 = 16 → Call wdC d mX5_isAt [vR 24, vR 3, vI x1, vI 1, vI 0] h (rI fun v14 h13 => (v14 = 0 → inR (x2 + 16) ∧ (At wdC (d + 1) mX4_findReference 2 [some (vR 21), some (vI x1), some (vI (x2 + 16)), none, none, none] [] h13 R)) ∧ (¬ (v14 = 0) → Call wdC d mX3_get [vR 3, vI (gS h13 24 4)] h13 (rI fun v16 h15 => (v16 ≠ 58 → ((0 : Int) ≠ 0 → ((0 : Int) = 0 → R (some (vI 1)) (pS (pS (pS h15 21 7 0) 21 6 x2) 21 5 (gS h13 24 4))) ∧ (¬ ((0 : Int) = 0) → R (some (vI 1)) (pS (pS (pS h15 21 7 0) 21 6 x2) 21 5 (gS h15 25 4)))) ∧ (¬ ((0 : Int) ≠ 0) → (x2 ≠ 0 → inR (x2 + 16) ∧ (At wdC (d + 1) mX4_findReference 2 [some (vR 21), some (vI x1), some (vI (x2 + 16)), none, none, none] [] (pS h15 21 7 0) R)) ∧ (¬ (x2 ≠ 0) → ((0 : Int) = 0 → R (some (vI 1)) (pS (pS (pS h15 21 7 0) 21 6 x2) 21 5 (gS h13 24 4))) ∧ (¬ ((0 : Int) = 0) → R (some (vI 1)) (pS (pS (pS h15 21 7 0) 21 6 x2) 21 5 (gS h15 25 4)))))) ∧ (¬ (v16 ≠ 58) → inR ((gS h13 24 4) + 1) ∧ (Call wdC d mX5_isAt [vR 25, vR 3, vI ((gS h13 24 4) + 1), vI 1, vI 0] h15 (rI fun v18 h17 => (v18 = 0 → ((0 : Int) ≠ 0 → ((0 : Int) = 0 → R (some (vI 1)) (pS (pS (pS h17 21 7 0) 21 6 x2) 21 5 (gS h13 24 4))) ∧ (¬ ((0 : Int) = 0) → R (some (vI 1)) (pS (pS (pS h17 21 7 0) 21 6 x2) 21 5 (gS h17 25 4)))) ∧ (¬ ((0 : Int) ≠ 0) → (x2 ≠ 0 → inR (x2 + 16) ∧ (At wdC (d + 1) mX4_findReference 2 [some (vR 21), some (vI x1), some (vI (x2 + 16)), none, none, none] [] (pS h17 21 7 0) R)) ∧ (¬ (x2 ≠ 0) → ((0 : Int) = 0 → R (some (vI 1)) (pS (pS (pS h17 21 7 0) 21 6 x2) 21 5 (gS h13 24 4))) ∧ (¬ ((0 : Int) = 0) → R (some (vI 1)) (pS (pS (pS h17 21 7 0) 21 6 x2) 21 5 (gS h17 25 4)))))) ∧ (¬ (v18 = 0) → ((1 : Int) ≠ 0 → ((1 : Int) = 0 → R (some (vI 1)) (pS (pS (pS h17 21 7 1) 21 6 x2) 21 5 (gS h13 24 4))) ∧ (¬ ((1 : Int) = 0) → R (some (vI 1)) (pS (pS (pS h17 21 7 1) 21 6 x2) 21 5 (gS h17 25 4)))) ∧ (¬ ((1 : Int) ≠ 0) → (x2 ≠ 0 → inR (x2 + 16) ∧ (At wdC (d + 1) mX4_findReference 2 [some (vR 21), some (vI x1), some (vI (x2 + 16)), none, none, none] [] (pS h17 21 7 1) R)) ∧ (¬ (x2 ≠ 0) → ((1 : Int) = 0 → R (some (vI 1)) (pS (pS (pS h17 21 7 1) 21 6 x2) 21 5 (gS h13 24 4))) ∧ (¬ ((1 : Int) = 0) → R (some (vI 1)) (pS (pS (pS h17 21 7 1) 21 6 x2) 21 5 (gS h17 25 4))))))))))))) ∧ (¬ (x2 = 16) → Call wdC d mX5_isAt [vR 24, vR 3, vI x1, vI 1, vI 1] h (rI fun v20 h19 => (v20 = 0 → inR (x2 + 16) ∧ (At wdC (d + 1) mX4_findReference 2 [some (vR 21), some (vI x1), some (vI (x2 + 16)), none, none, none] [] h19 R)) ∧ (¬ (v20 = 0) → Call wdC d mX3_get [vR 3, vI (gS h19 24 4)] h19 (rI fun v22 h21 => (v22 ≠ 58 → ((0 : Int) ≠ 0 → ((0 : Int) = 0 → R (some (vI 1)) (pS (pS (pS h21 21 7 0) 21 6 x2) 21 5 (gS h19 24 4))) ∧ (¬ ((0 : Int) = 0) → R (some (vI 1)) (pS (pS (pS h21 21 7 0) 21 6 x2) 21 5 (gS h21 25 4)))) ∧ (¬ ((0 : Int) ≠ 0) → (x2 ≠ 0 → inR (x2 + 16) ∧ (At wdC (d + 1) mX4_findReference 2 [some (vR 21), some (vI x1), some (vI (x2 + 16)), none, none, none] [] (pS h21 21 7 0) R)) ∧ (¬ (x2 ≠ 0) → ((0 : Int) = 0 → R (some (vI 1)) (pS (pS (pS h21 21 7 0) 21 6 x2) 21 5 (gS h19 24 4))) ∧ (¬ ((0 : Int) = 0) → R (some (vI 1)) (pS (pS (pS h21 21 7 0) 21 6 x2) 21 5 (gS h21 25 4)))))) ∧ (¬ (v22 ≠ 58) → inR ((gS h19 24 4) + 1) ∧ (Call wdC d mX5_isAt [vR 25, vR 3, vI ((gS h19 24 4) + 1), vI 1, vI 1] h21 (rI fun v24 h23 => (v24 = 0 → ((0 : Int) ≠ 0 → ((0 : Int) = 0 → R (some (vI 1)) (pS (pS (pS h23 21 7 0) 21 6 x2) 21 5 (gS h19 24 4))) ∧ (¬ ((0 : Int) = 0) → R (some (vI 1)) (pS (pS (pS h23 21 7 0) 21 6 x2) 21 5 (gS h23 25 4)))) ∧ (¬ ((0 : Int) ≠ 0) → (x2 ≠ 0 → inR (x2 + 16) ∧ (At wdC (d + 1) mX4_findReference 2 [some (vR 21), some (vI x1), some (vI (x2 + 16)), none, none, none] [] (pS h23 21 7 0) R)) ∧ (¬ (x2 ≠ 0) → ((0 : Int) = 0 → R (some (vI 1)) (pS (pS (pS h23 21 7 0) 21 6 x2) 21 5 (gS h19 24 4))) ∧ (¬ ((0 : Int) = 0) → R (some (vI 1)) (pS (pS (pS h23 21 7 0) 21 6 x2) 21 5 (gS h23 25 4)))))) ∧ (¬ (v24 = 0) → ((1 : Int) ≠ 0 → ((1 : Int) = 0 → R (some (vI 1)) (pS (pS (pS h23 21 7 1) 21 6 x2) 21 5 (gS h19 24 4))) ∧ (¬ ((1 : Int) = 0) → R (some (vI 1)) (pS (pS (pS h23 21 7 1) 21 6 x2) 21 5 (gS h23 25 4)))) ∧ (¬ ((1 : Int) ≠ 0) → (x2 ≠ 0 → inR (x2 + 16) ∧ (At wdC (d + 1) mX4_findReference 2 [some (vR 21), some (vI x1), some (vI (x2 + 16)), none, none, none] [] (pS h23 21 7 1) R)) ∧ (¬ (x2 ≠ 0) → ((1 : Int) = 0 → R (some (vI 1)) (pS (pS (pS h23 21 7 1) 21 6 x2) 21 5 (gS h19 24 4))) ∧ (¬ ((1 : Int) = 0) → R (some (vI 1)) (pS (pS (pS h23 21 7 1) 21 6 x2) 21 5 (gS h23 25 4)))))))))))))))) : At wdC (d + 1) mX4_findReference 2 [some (vR 21), some (vI x1), some (vI x2), none, none, none] [] h R :=
  At.wp 400 kX4_findReference [(2, [true, true, true, false, false, false])] okX4_findReference rfl ⟨_, _, _, rfl⟩ H
set_option maxRecDepth 20000 in
theorem sX4_writeReference {d : Nat} {R : AR} {h : AH} {x1 : Int}
    (H : ((gS h 21 7) = 0 → inR (2 * (gS h 24 3)) ∧ (inR ((gS h 24 2) + (2 * (gS h 24 3))) ∧ (Call wdC d mX7_item [vI 4, vI ((gS h 24 2) + (2 * (gS h 24 3)))] h (rI fun v2 h1 => Call wdC d mX3_add [vR 9, vI v2] h1 (rV fun h3 => Call wdC d mX3_add [vR 9, vI x1] h3 (rV fun h4 => Call wdC d mX3_add [vR 9, vI (gS h4 24 1)] h4 (rV fun h5 => Call wdC d mX3_add [vR 9, vI (gS h5 24 0)] h5 (rV fun h6 => R none h6)))))))) ∧ (¬ ((gS h 21 7) = 0) → Call wdC d mX4_writeRange [vR 21, vI x1] h (rV fun h7 => R none h7))) : At wdC (d + 1) mX4_writeReference 0 [some (vR 21), some (vI x1)] [] h R :=
  At.wp 400 kX4_writeReference [] okX4_writeReference rfl ⟨_, _, _, rfl⟩ H
set_option maxRecDepth 20000 in
theorem sX4_writeRange {d : Nat} {R : AR} {h : AH} {x1 : Int}
    (H : ((gS h 21 6) ≠ 16 → At wdC (d + 1) mX4_writeRange 26 [some (vR 21), some (vI x1), none, none, none, none, none, none, none] [] h R) ∧ (¬ ((gS h 21 6) ≠ 16) → At wdC (d + 1) mX4_writeRange 26 [some (vR 21), some (vI x1), none, none, none, none, none, none, none] [] (pS (pS h 24 1 1) 25 1 1048576) R)) : At wdC (d + 1) mX4_writeRange 0 [some (vR 21), some (vI x1), none, none, none, none, none, none, none] [] h R :=
  At.wp 400 kX4_writeRange [(26, [true, true, false, false, false, false, false, false, false]), (53, [true, true, false, false, false, false, false, false, false]), (99, [true, true, true, true, false, false, false, false, false]), (167, [true, true, false, false, true, true, true, true, false])] okX4_writeRange rfl ⟨_, _, _, rfl⟩ H
set_option maxRecDepth 20000 in
theorem sX4_writeRange_26 {d : Nat} {R : AR} {h : AH} {x1 : Int}
    (H : ((gS h 21 6) ≠ 32 → At wdC (d + 1) mX4_writeRange 53 [some (vR 21), some (vI x1), none, none, none, none, none, none, none] [] h R) ∧ (¬ ((gS h 21 6) ≠ 32) → At wdC (d + 1) mX4_writeRange 53 [some (vR 21), some (vI x1), none, none, none, none, none, none, none] [] (pS (pS h 24 0 1) 25 0 16384) R)) : At wdC (d + 1) mX4_writeRange 26 [some (vR 21), some (vI x1), none, none, none, none, none, none, none] [] h R :=
  At.wp 400 kX4_writeRange [(26, [true, true, false, false, false, false, false, false, false]), (53, [true, true, false, false, false, false, false, false, false]), (99, [true, true, true, true, false, false, false, false, false]), (167, [true, true, false, false, true, true, true, true, false])] okX4_writeRange rfl ⟨_, _, _, rfl⟩ H
set_option maxRecDepth 20000 in
theorem sX4_writeRange_53 {d : Nat} {R : AR} {h : AH} {x1 : Int}
    (H : ((gS h 24 0) ≤ (gS h 25 0) → ((gS h 24 1) ≤ (gS h 25 1) → At wdC (d + 1) mX4_writeRange 99 [some (vR 21), some (vI x1), some (vI 0), some (vI 0), none, none, none, none, none] [] h R) ∧ (¬ ((gS h 24 1) ≤ (gS h 25 1)) → At wdC (d + 1) mX4_writeRange 99 [some (vR 21), some (vI x1), some (vI 0), some (vI 1), none, none, none, none, none] [] h R)) ∧ (¬ ((gS h 24 0) ≤ (gS h 25 0)) → ((gS h 24 1) ≤ (gS h 25 1) → At wdC (d + 1) mX4_writeRange 99 [some (vR 21), some (vI x1), some (vI 1), some (vI 0), none, none, none, none, none] [] h R) ∧ (¬ ((gS h 24 1) ≤ (gS h 25 1)) → At wdC (d + 1) mX4_writeRange 99 [some (vR 21), some (vI x1), some (vI 1), some (vI 1), none, none, none, none, none] [] h R))) : At wdC (d + 1) mX4_writeRange 53 [some (vR 21), some (vI x1), none, none, none, none, none, none, none] [] h R :=
  At.wp 400 kX4_writeRange [(26, [true, true, false, false, false, false, false, false, false]), (53, [true, true, false, false, false, false, false, false, false]), (99, [true, true, true, true, false, false, false, false, false]), (167, [true, true, false, false, true, true, true, true, false])] okX4_writeRange rfl ⟨_, _, _, rfl⟩ H
set_option maxRecDepth 20000 in
theorem sX4_writeRange_99 {d : Nat} {R : AR} {h : AH} {x1 : Int} {x2 : Int} {x3 : Int}
    (H : (x2 = 0 → (x2 = 0 → (x3 = 0 → (x3 = 0 → At wdC (d + 1) mX4_writeRange 167 [some (vR 21), some (vI x1), none, none, some (vR 24), some (vR 25), some (vR 24), some (vR 25), none] [] h R) ∧ (¬ (x3 = 0) → At wdC (d + 1) mX4_writeRange 167 [some (vR 21), some (vI x1), none, none, some (vR 24), some (vR 25), some (vR 24), some (vR 24), none] [] h R)) ∧ (¬ (x3 = 0) → (x3 = 0 → At wdC (d + 1) mX4_writeRange 167 [some (vR 21), some (vI x1), none, none, some (vR 24), some (vR 25), some (vR 25), some (vR 25), none] [] h R) ∧ (¬ (x3 = 0) → At wdC (d + 1) mX4_writeRange 167 [some (vR 21), some (vI x1), none, none, some (vR 24), some (vR 25), some (vR 25), some (vR 24), none] [] h R))) ∧ (¬ (x2 = 0) → (x3 = 0 → (x3 = 0 → At wdC (d + 1) mX4_writeRange 167 [some (vR 21), some (vI x1), none, none, some (vR 24), some (vR 24), some (vR 24), some (vR 25), none] [] h R) ∧ (¬ (x3 = 0) → At wdC (d + 1) mX4_writeRange 167 [some (vR 21), some (vI x1), none, none, some (vR 24), some (vR 24), some (vR 24), some (vR 24), none] [] h R)) ∧ (¬ (x3 = 0) → (x3 = 0 → At wdC (d + 1) mX4_writeRange 167 [some (vR 21), some (vI x1), none, none, some (vR 24), some (vR 24), some (vR 25), some (vR 25), none] [] h R) ∧ (¬ (x3 = 0) → At wdC (d + 1) mX4_writeRange 167 [some (vR 21), some (vI x1), none, none, some (vR 24), some (vR 24), some (vR 25), some (vR 24), none] [] h R)))) ∧ (¬ (x2 = 0) → (x2 = 0 → (x3 = 0 → (x3 = 0 → At wdC (d + 1) mX4_writeRange 167 [some (vR 21), some (vI x1), none, none, some (vR 25), some (vR 25), some (vR 24), some (vR 25), none] [] h R) ∧ (¬ (x3 = 0) → At wdC (d + 1) mX4_writeRange 167 [some (vR 21), some (vI x1), none, none, some (vR 25), some (vR 25), some (vR 24), some (vR 24), none] [] h R)) ∧ (¬ (x3 = 0) → (x3 = 0 → At wdC (d + 1) mX4_writeRange 167 [some (vR 21), some (vI x1), none, none, some (vR 25), some (vR 25), some (vR 25), some (vR 25), none] [] h R) ∧ (¬ (x3 = 0) → At wdC (d + 1) mX4_writeRange 167 [some (vR 21), some (vI x1), none, none, some (vR 25), some (vR 25), some (vR 25), some (vR 24), none] [] h R))) ∧ (¬ (x2 = 0) → (x3 = 0 → (x3 = 0 → At wdC (d + 1) mX4_writeRange 167 [some (vR 21), some (vI x1), none, none, some (vR 25), some (vR 24), some (vR 24), some (vR 25), none] [] h R) ∧ (¬ (x3 = 0) → At wdC (d + 1) mX4_writeRange 167 [some (vR 21), some (vI x1), none, none, some (vR 25), some (vR 24), some (vR 24), some (vR 24), none] [] h R)) ∧ (¬ (x3 = 0) → (x3 = 0 → At wdC (d + 1) mX4_writeRange 167 [some (vR 21), some (vI x1), none, none, some (vR 25), some (vR 24), some (vR 25), some (vR 25), none] [] h R) ∧ (¬ (x3 = 0) → At wdC (d + 1) mX4_writeRange 167 [some (vR 21), some (vI x1), none, none, some (vR 25), some (vR 24), some (vR 25), some (vR 24), none] [] h R))))) : At wdC (d + 1) mX4_writeRange 99 [some (vR 21), some (vI x1), some (vI x2), some (vI x3), none, none, none, none, none] [] h R :=
  At.wp 400 kX4_writeRange [(26, [true, true, false, false, false, false, false, false, false]), (53, [true, true, false, false, false, false, false, false, false]), (99, [true, true, true, true, false, false, false, false, false]), (167, [true, true, false, false, true, true, true, true, false])] okX4_writeRange rfl ⟨_, _, _, rfl⟩ H
set_option maxRecDepth 20000 in
theorem sX4_writeRange_167 {d : Nat} {R : AR} {h : AH} {x1 : Int} {r4 : Nat} {r5 : Nat} {r6 : Nat} {r7 : Nat}
    (H : ob (isOb wdC r4 4) (ob (isOb wdC r6 4) (inR (2 * (gS h r6 3)) ∧ (inR ((gS h r4 2) + (2 * (gS h r6 3))) ∧ (ob (isOb wdC r5 4) (inR (4 * (gS h r5 2)) ∧ (inR (((gS h r4 2) + (2 * (gS h r6 3))) + (4 * (gS h r5 2))) ∧ (ob (isOb wdC r7 4) (inR (8 * (gS h r7 3)) ∧ (inR ((((gS h r4 2) + (2 * (gS h r6 3))) + (4 * (gS h r5 2))) + (8 * (gS h r7 3))) ∧ (inR ((gS h 21 6) + ((((gS h r4 2) + (2 * (gS h r6 3))) + (4 * (gS h r5 2))) + (8 * (gS h r7 3)))) ∧ (Call wdC d mX7_item [vI 5, vI ((gS h 21 6) + ((((gS h r4 2) + (2 * (gS h r6 3))) + (4 * (gS h r5 2))) + (8 * (gS h r7 3))))] h (rI fun v2 h1 => Call wdC d mX3_add [vR 9, vI v2] h1 (rV fun h3 => Call wdC d mX3_add [vR 9, vI x1] h3 (rV fun h4 => ob (isOb wdC r6 4) (Call wdC d mX3_add [vR 9, vI (gS h4 r6 1)] h4 (rV fun h5 => ob (isOb wdC r4 4) (Call wdC d mX3_add [vR 9, vI (gS h5 r4 0)] h5 (rV fun h6 => ob (isOb wdC r7 4) (Call wdC d mX3_add [vR 9, vI (gS h6 r7 1)] h6 (rV fun h7 => ob (isOb wdC r5 4) (Call wdC d mX3_add [vR 9, vI (gS h7 r5 0)] h7 (rV fun h8 => R none h8))))))))))))))))))))))) : At wdC (d + 1) mX4_writeRange 167 [some (vR 21), some (vI x1), none, none, some (vR r4), some (vR r5), some (vR r6), some (vR r7), none] [] h R :=
  At.wp 400 kX4_writeRange [(26, [true, true, false, false, false, false, false, false, false]), (53, [true, true, false, false, false, false, false, false, false]), (99, [true, true, true, true, false, false, false, false, false]), (167, [true, true, false, false, true, true, true, true, false])] okX4_writeRange rfl ⟨_, _, _, rfl⟩ H
set_option maxRecDepth 20000 in
theorem sX5_isAt {d : Nat} {R : AR} {h : AH} {r : Nat}  {x2 : Int} {x3 : Int} {x4 : Int}
    (H : ob (isOb wdC r 4) (ob (isOb wdC r 4) (ob (isOb wdC r 4) ((x3 = 0 → ob (isOb wdC r 4) (ob (isOb wdC r 4) (ob (isOb wdC r 4) (inR ((gS (pS h r 4 x2) r 4) + (gS (pS (pS (pS (pS h r 4 x2) r 0 0) r 1 0) r 2 0) r 2)) ∧ (ob (isOb wdC r 4) (At wdC (d + 1) mX5_isAt 57 [some (vR r), some (vR 3), none, some (vI x3), some (vI x4), some (vI 0), none] [] (pS (pS (pS (pS (pS h r 4 x2) r 0 0) r 1 0) r 2 0) r 4 ((gS (pS h r 4 x2) r 4) + (gS (pS (pS (pS (pS h r 4 x2) r 0 0) r 1 0) r 2 0) r 2))) R)))))) ∧ (¬ (x3 = 0) → ob (isOb wdC r 4) (Call wdC d mX3_get [vR 3, vI (gS (pS h r 4 x2) r 4)] (pS (pS (pS h r 4 x2) r 0 0) r 1 0) (rI fun v2 h1 => (v2 ≠ 36 → ob (isOb wdC r 4) (ob (isOb wdC r 4) (ob (isOb wdC r 4) (inR ((gS h1 r 4) + (gS (pS h1 r 2 0) r 2)) ∧ (ob (isOb wdC r 4) (At wdC (d + 1) mX5_isAt 57 [some (vR r), some (vR 3), none, some (vI x3), some (vI x4), some (vI 0), none] [] (pS (pS h1 r 2 0) r 4 ((gS h1 r 4) + (gS (pS h1 r 2 0) r 2))) R)))))) ∧ (¬ (v2 ≠ 36) → ob (isOb wdC r 4) (ob (isOb wdC r 4) (ob (isOb wdC r 4) (inR ((gS h1 r 4) + (gS (pS h1 r 2 1) r 2)) ∧ (ob (isOb wdC r 4) (At wdC (d + 1) mX5_isAt 57 [some (vR r), some (vR 3), none, some (vI x3), some (vI x4), some (vI 0), none] [] (pS (pS h1 r 2 1) r 4 ((gS h1 r 4) + (gS (pS h1 r 2 1) r 2))) R))))))))))))) : At wdC (d + 1) mX5_isAt 0 [some (vR r), some (vR 3), some (vI x2), some (vI x3), some (vI x4), none, none] [] h R :=
  At.wp 400 kX5_isAt [(57, [true, true, false, true, true, true, false]), (188, [true, true, false, true, true, true, true])] okX5_isAt rfl ⟨_, _, _, rfl⟩ H
set_option maxRecDepth 20000 in
theorem sX5_isAt_57 {d : Nat} {R : AR} {h : AH} {r0 : Nat} {x3 : Int} {x4 : Int} {x5 : Int}
    (H : (x3 = 0 → (x4 = 0 → ob (isOb wdC r0 4) (ob (isOb wdC r0 4) (ob (isOb wdC r0 4) (inR ((gS h r0 4) + (gS (pS h r0 3 0) r0 3)) ∧ (ob (isOb wdC r0 4) (ob (isOb wdC r0 4) (Call wdC d mX3_get [vR 3, vI (gS (pS (pS h r0 3 0) r0 4 ((gS h r0 4) + (gS (pS h r0 3 0) r0 3))) r0 4)] (pS (pS h r0 3 0) r0 4 ((gS h r0 4) + (gS (pS h r0 3 0) r0 3))) (rI fun v4 h3 => (v4 = 48 → At wdC (d + 1) mX5_isAt 188 [some (vR r0), some (vR 3), none, some (vI x3), some (vI x4), some (vI 0), some (vI 0)] [] h3 R) ∧ (¬ (v4 = 48) → At wdC (d + 1) mX5_isAt 188 [some (vR r0), some (vR 3), none, some (vI x3), some (vI x4), some (vI 1), some (vI 0)] [] h3 R))))))))) ∧ (¬ (x4 = 0) → ob (isOb wdC r0 4) (Call wdC d mX3_get [vR 3, vI (gS h r0 4)] h (rI fun v6 h5 => (v6 ≠ 36 → ob (isOb wdC r0 4) (ob (isOb wdC r0 4) (ob (isOb wdC r0 4) (inR ((gS h5 r0 4) + (gS (pS h5 r0 3 0) r0 3)) ∧ (ob (isOb wdC r0 4) (ob (isOb wdC r0 4) (Call wdC d mX3_get [vR 3, vI (gS (pS (pS h5 r0 3 0) r0 4 ((gS h5 r0 4) + (gS (pS h5 r0 3 0) r0 3))) r0 4)] (pS (pS h5 r0 3 0) r0 4 ((gS h5 r0 4) + (gS (pS h5 r0 3 0) r0 3))) (rI fun v8 h7 => (v8 = 48 → At wdC (d + 1) mX5_isAt 188 [some (vR r0), some (vR 3), none, some (vI x3), some (vI x4), some (vI 0), some (vI 0)] [] h7 R) ∧ (¬ (v8 = 48) → At wdC (d + 1) mX5_isAt 188 [some (vR r0), some (vR 3), none, some (vI x3), some (vI x4), some (vI 1), some (vI 0)] [] h7 R))))))))) ∧ (¬ (v6 ≠ 36) → ob (isOb wdC r0 4) (ob (isOb wdC r0 4) (ob (isOb wdC r0 4) (inR ((gS h5 r0 4) + (gS (pS h5 r0 3 1) r0 3)) ∧ (ob (isOb wdC r0 4) (ob (isOb wdC r0 4) (Call wdC d mX3_get [vR 3, vI (gS (pS (pS h5 r0 3 1) r0 4 ((gS h5 r0 4) + (gS (pS h5 r0 3 1) r0 3))) r0 4)] (pS (pS h5 r0 3 1) r0 4 ((gS h5 r0 4) + (gS (pS h5 r0 3 1) r0 3))) (rI fun v10 h9 => (v10 = 48 → At wdC (d + 1) mX5_isAt 188 [some (vR r0), some (vR 3), none, some (vI x3), some (vI x4), some (vI 0), some (vI 0)] [] h9 R) ∧ (¬ (v10 = 48) → At wdC (d + 1) mX5_isAt 188 [some (vR r0), some (vR 3), none, some (vI x3), some (vI x4), some (vI 1), some (vI 0)] [] h9 R))))))))))))) ∧ (¬ (x3 = 0) → (3 ≤ x5 → (x4 = 0 → ob (isOb wdC r0 4) (ob (isOb wdC r0 4) (ob (isOb wdC r0 4) (inR ((gS h r0 4) + (gS (pS h r0 3 0) r0 3)) ∧ (ob (isOb wdC r0 4) (ob (isOb wdC r0 4) (Call wdC d mX3_get [vR 3, vI (gS (pS (pS h r0 3 0) r0 4 ((gS h r0 4) + (gS (pS h r0 3 0) r0 3))) r0 4)] (pS (pS h r0 3 0) r0 4 ((gS h r0 4) + (gS (pS h r0 3 0) r0 3))) (rI fun v12 h11 => (v12 = 48 → At wdC (d + 1) mX5_isAt 188 [some (vR r0), some (vR 3), none, some (vI x3), some (vI x4), some (vI 0), some (vI 0)] [] h11 R) ∧ (¬ (v12 = 48) → At wdC (d + 1) mX5_isAt 188 [some (vR r0), some (vR 3), none, some (vI x3), some (vI x4), some (vI 1), some (vI 0)] [] h11 R))))))))) ∧ (¬ (x4 = 0) → ob (isOb wdC r0 4) (Call wdC d mX3_get [vR 3, vI (gS h r0 4)] h (rI fun v14 h13 => (v14 ≠ 36 → ob (isOb wdC r0 4) (ob (isOb wdC r0 4) (ob (isOb wdC r0 4) (inR ((gS h13 r0 4) + (gS (pS h13 r0 3 0) r0 3)) ∧ (ob (isOb wdC r0 4) (ob (isOb wdC r0 4) (Call wdC d mX3_get [vR 3, vI (gS (pS (pS h13 r0 3 0) r0 4 ((gS h13 r0 4) + (gS (pS h13 r0 3 0) r0 3))) r0 4)] (pS (pS h13 r0 3 0) r0 4 ((gS h13 r0 4) + (gS (pS h13 r0 3 0) r0 3))) (rI fun v16 h15 => (v16 = 48 → At wdC (d + 1) mX5_isAt 188 [some (vR r0), some (vR 3), none, some (vI x3), some (vI x4), some (vI 0), some (vI 0)] [] h15 R) ∧ (¬ (v16 = 48) → At wdC (d + 1) mX5_isAt 188 [some (vR r0), some (vR 3), none, some (vI x3), some (vI x4), some (vI 1), some (vI 0)] [] h15 R))))))))) ∧ (¬ (v14 ≠ 36) → ob (isOb wdC r0 4) (ob (isOb wdC r0 4) (ob (isOb wdC r0 4) (inR ((gS h13 r0 4) + (gS (pS h13 r0 3 1) r0 3)) ∧ (ob (isOb wdC r0 4) (ob (isOb wdC r0 4) (Call wdC d mX3_get [vR 3, vI (gS (pS (pS h13 r0 3 1) r0 4 ((gS h13 r0 4) + (gS (pS h13 r0 3 1) r0 3))) r0 4)] (pS (pS h13 r0 3 1) r0 4 ((gS h13 r0 4) + (gS (pS h13 r0 3 1) r0 3))) (rI fun v18 h17 => (v18 = 48 → At wdC (d + 1) mX5_isAt 188 [some (vR r0), some (vR 3), none, some (vI x3), some (vI x4), some (vI 0), some (vI 0)] [] h17 R) ∧ (¬ (v18 = 48) → At wdC (d + 1) mX5_isAt 188 [some (vR r0), some (vR 3), none, some (vI x3), some (vI x4), some (vI 1), some (vI 0)] [] h17 R))))))))))))) ∧ (¬ (3 ≤ x5) → ob (isOb wdC r0 4) (Call wdC d mX3_get [vR 3, vI (gS h r0 4)] h (rI fun v20 h19 => Call wdC d mX7_isLetter [vI v20] h19 (rI fun v22 h21 => (v22 = 0 → (x4 = 0 → ob (isOb wdC r0 4) (ob (isOb wdC r0 4) (ob (isOb wdC r0 4) (inR ((gS h21 r0 4) + (gS (pS h21 r0 3 0) r0 3)) ∧ (ob (isOb wdC r0 4) (ob (isOb wdC r0 4) (Call wdC d mX3_get [vR 3, vI (gS (pS (pS h21 r0 3 0) r0 4 ((gS h21 r0 4) + (gS (pS h21 r0 3 0) r0 3))) r0 4)] (pS (pS h21 r0 3 0) r0 4 ((gS h21 r0 4) + (gS (pS h21 r0 3 0) r0 3))) (rI fun v24 h23 => (v24 = 48 → At wdC (d + 1) mX5_isAt 188 [some (vR r0), some (vR 3), none, some (vI x3), some (vI x4), some (vI 0), some (vI 0)] [] h23 R) ∧ (¬ (v24 = 48) → At wdC (d + 1) mX5_isAt 188 [some (vR r0), some (vR 3), none, some (vI x3), some (vI x4), some (vI 1), some (vI 0)] [] h23 R))))))))) ∧ (¬ (x4 = 0) → ob (isOb wdC r0 4) (Call wdC d mX3_get [vR 3, vI (gS h21 r0 4)] h21 (rI fun v26 h25 => (v26 ≠ 36 → ob (isOb wdC r0 4) (ob (isOb wdC r0 4) (ob (isOb wdC r0 4) (inR ((gS h25 r0 4) + (gS (pS h25 r0 3 0) r0 3)) ∧ (ob (isOb wdC r0 4) (ob (isOb wdC r0 4) (Call wdC d mX3_get [vR 3, vI (gS (pS (pS h25 r0 3 0) r0 4 ((gS h25 r0 4) + (gS (pS h25 r0 3 0) r0 3))) r0 4)] (pS (pS h25 r0 3 0) r0 4 ((gS h25 r0 4) + (gS (pS h25 r0 3 0) r0 3))) (rI fun v28 h27 => (v28 = 48 → At wdC (d + 1) mX5_isAt 188 [some (vR r0), some (vR 3), none, some (vI x3), some (vI x4), some (vI 0), some (vI 0)] [] h27 R) ∧ (¬ (v28 = 48) → At wdC (d + 1) mX5_isAt 188 [some (vR r0), some (vR 3), none, some (vI x3), some (vI x4), some (vI 1), some (vI 0)] [] h27 R))))))))) ∧ (¬ (v26 ≠ 36) → ob (isOb wdC r0 4) (ob (isOb wdC r0 4) (ob (isOb wdC r0 4) (inR ((gS h25 r0 4) + (gS (pS h25 r0 3 1) r0 3)) ∧ (ob (isOb wdC r0 4) (ob (isOb wdC r0 4) (Call wdC d mX3_get [vR 3, vI (gS (pS (pS h25 r0 3 1) r0 4 ((gS h25 r0 4) + (gS (pS h25 r0 3 1) r0 3))) r0 4)] (pS (pS h25 r0 3 1) r0 4 ((gS h25 r0 4) + (gS (pS h25 r0 3 1) r0 3))) (rI fun v30 h29 => (v30 = 48 → At wdC (d + 1) mX5_isAt 188 [some (vR r0), some (vR 3), none, some (vI x3), some (vI x4), some (vI 0), some (vI 0)] [] h29 R) ∧ (¬ (v30 = 48) → At wdC (d + 1) mX5_isAt 188 [some (vR r0), some (vR 3), none, some (vI x3), some (vI x4), some (vI 1), some (vI 0)] [] h29 R))))))))))))) ∧ (¬ (v22 = 0) → ob (isOb wdC r0 4) (inR ((gS h21 r0 0) * 26) ∧ (ob (isOb wdC r0 4) (Call wdC d mX3_get [vR 3, vI (gS h21 r0 4)] h21 (rI fun v32 h31 => Call wdC d mX7_capital [vI v32] h31 (rI fun v34 h33 => inR (((gS h21 r0 0) * 26) + v34) ∧ (inR ((((gS h21 r0 0) * 26) + v34) - 65) ∧ (inR (((((gS h21 r0 0) * 26) + v34) - 65) + 1) ∧ (ob (isOb wdC r0 4) (ob (isOb wdC r0 4) (inR ((gS h33 r0 4) + 1) ∧ (ob (isOb wdC r0 4) (inR (x5 + 1) ∧ (At wdC (d + 1) mX5_isAt 57 [some (vR r0), some (vR 3), none, some (vI x3), some (vI x4), some (vI (x5 + 1)), none] [] (pS (pS h33 r0 0 (((((gS h21 r0 0) * 26) + v34) - 65) + 1)) r0 4 ((gS h33 r0 4) + 1)) R)))))))))))))))))))) : At wdC (d + 1) mX5_isAt 57 [some (vR r0), some (vR 3), none, some (vI x3), some (vI x4), some (vI x5), none] [] h R :=
  At.wp 400 kX5_isAt [(57, [true, true, false, true, true, true, false]), (188, [true, true, false, true, true, true, true])] okX5_isAt rfl ⟨_, _, _, rfl⟩ H
set_option maxRecDepth 20000 in
theorem sX5_isAt_188 {d : Nat} {R : AR} {h : AH} {r0 : Nat} {x3 : Int} {x4 : Int} {x5 : Int} {x6 : Int}
    (H : (x4 = 0 → ob (isOb wdC r0 4) (Call wdC d mX3_get [vR 3, vI (gS h r0 4)] h (rI fun v36 h35 => (x3 = 0 → (x4 = 0 → Call wdC d mX7_isWordPart [vI v36] h35 (rI fun v38 h37 => (v38 ≠ 0 → R (some (vI 0)) h37) ∧ (¬ (v38 ≠ 0) → (v36 = 40 → R (some (vI 0)) h37) ∧ (¬ (v36 = 40) → (v36 = 33 → R (some (vI 0)) h37) ∧ (¬ (v36 = 33) → R (some (vI 1)) h37))))) ∧ (¬ (x4 = 0) → (x5 = 0 → R (some (vI 0)) h35) ∧ (¬ (x5 = 0) → ob (isOb wdC r0 4) (((gS h35 r0 1) < 1 → R (some (vI 0)) h35) ∧ (¬ ((gS h35 r0 1) < 1) → ob (isOb wdC r0 4) ((1048576 < (gS h35 r0 1) → R (some (vI 0)) h35) ∧ (¬ (1048576 < (gS h35 r0 1)) → Call wdC d mX7_isWordPart [vI v36] h35 (rI fun v40 h39 => (v40 ≠ 0 → R (some (vI 0)) h39) ∧ (¬ (v40 ≠ 0) → (v36 = 40 → R (some (vI 0)) h39) ∧ (¬ (v36 = 40) → (v36 = 33 → R (some (vI 0)) h39) ∧ (¬ (v36 = 33) → R (some (vI 1)) h39))))))))))) ∧ (¬ (x3 = 0) → ob (isOb wdC r0 4) (((gS h35 r0 0) < 1 → R (some (vI 0)) h35) ∧ (¬ ((gS h35 r0 0) < 1) → ob (isOb wdC r0 4) ((16384 < (gS h35 r0 0) → R (some (vI 0)) h35) ∧ (¬ (16384 < (gS h35 r0 0)) → (x4 = 0 → Call wdC d mX7_isWordPart [vI v36] h35 (rI fun v42 h41 => (v42 ≠ 0 → R (some (vI 0)) h41) ∧ (¬ (v42 ≠ 0) → (v36 = 40 → R (some (vI 0)) h41) ∧ (¬ (v36 = 40) → (v36 = 33 → R (some (vI 0)) h41) ∧ (¬ (v36 = 33) → R (some (vI 1)) h41))))) ∧ (¬ (x4 = 0) → (x5 = 0 → R (some (vI 0)) h35) ∧ (¬ (x5 = 0) → ob (isOb wdC r0 4) (((gS h35 r0 1) < 1 → R (some (vI 0)) h35) ∧ (¬ ((gS h35 r0 1) < 1) → ob (isOb wdC r0 4) ((1048576 < (gS h35 r0 1) → R (some (vI 0)) h35) ∧ (¬ (1048576 < (gS h35 r0 1)) → Call wdC d mX7_isWordPart [vI v36] h35 (rI fun v44 h43 => (v44 ≠ 0 → R (some (vI 0)) h43) ∧ (¬ (v44 ≠ 0) → (v36 = 40 → R (some (vI 0)) h43) ∧ (¬ (v36 = 40) → (v36 = 33 → R (some (vI 0)) h43) ∧ (¬ (v36 = 33) → R (some (vI 1)) h43)))))))))))))))))) ∧ (¬ (x4 = 0) → (7 ≤ x6 → ob (isOb wdC r0 4) (Call wdC d mX3_get [vR 3, vI (gS h r0 4)] h (rI fun v46 h45 => (x3 = 0 → (x4 = 0 → Call wdC d mX7_isWordPart [vI v46] h45 (rI fun v48 h47 => (v48 ≠ 0 → R (some (vI 0)) h47) ∧ (¬ (v48 ≠ 0) → (v46 = 40 → R (some (vI 0)) h47) ∧ (¬ (v46 = 40) → (v46 = 33 → R (some (vI 0)) h47) ∧ (¬ (v46 = 33) → R (some (vI 1)) h47))))) ∧ (¬ (x4 = 0) → (x5 = 0 → R (some (vI 0)) h45) ∧ (¬ (x5 = 0) → ob (isOb wdC r0 4) (((gS h45 r0 1) < 1 → R (some (vI 0)) h45) ∧ (¬ ((gS h45 r0 1) < 1) → ob (isOb wdC r0 4) ((1048576 < (gS h45 r0 1) → R (some (vI 0)) h45) ∧ (¬ (1048576 < (gS h45 r0 1)) → Call wdC d mX7_isWordPart [vI v46] h45 (rI fun v50 h49 => (v50 ≠ 0 → R (some (vI 0)) h49) ∧ (¬ (v50 ≠ 0) → (v46 = 40 → R (some (vI 0)) h49) ∧ (¬ (v46 = 40) → (v46 = 33 → R (some (vI 0)) h49) ∧ (¬ (v46 = 33) → R (some (vI 1)) h49))))))))))) ∧ (¬ (x3 = 0) → ob (isOb wdC r0 4) (((gS h45 r0 0) < 1 → R (some (vI 0)) h45) ∧ (¬ ((gS h45 r0 0) < 1) → ob (isOb wdC r0 4) ((16384 < (gS h45 r0 0) → R (some (vI 0)) h45) ∧ (¬ (16384 < (gS h45 r0 0)) → (x4 = 0 → Call wdC d mX7_isWordPart [vI v46] h45 (rI fun v52 h51 => (v52 ≠ 0 → R (some (vI 0)) h51) ∧ (¬ (v52 ≠ 0) → (v46 = 40 → R (some (vI 0)) h51) ∧ (¬ (v46 = 40) → (v46 = 33 → R (some (vI 0)) h51) ∧ (¬ (v46 = 33) → R (some (vI 1)) h51))))) ∧ (¬ (x4 = 0) → (x5 = 0 → R (some (vI 0)) h45) ∧ (¬ (x5 = 0) → ob (isOb wdC r0 4) (((gS h45 r0 1) < 1 → R (some (vI 0)) h45) ∧ (¬ ((gS h45 r0 1) < 1) → ob (isOb wdC r0 4) ((1048576 < (gS h45 r0 1) → R (some (vI 0)) h45) ∧ (¬ (1048576 < (gS h45 r0 1)) → Call wdC d mX7_isWordPart [vI v46] h45 (rI fun v54 h53 => (v54 ≠ 0 → R (some (vI 0)) h53) ∧ (¬ (v54 ≠ 0) → (v46 = 40 → R (some (vI 0)) h53) ∧ (¬ (v46 = 40) → (v46 = 33 → R (some (vI 0)) h53) ∧ (¬ (v46 = 33) → R (some (vI 1)) h53)))))))))))))))))) ∧ (¬ (7 ≤ x6) → ob (isOb wdC r0 4) (Call wdC d mX3_get [vR 3, vI (gS h r0 4)] h (rI fun v56 h55 => Call wdC d mX7_isDigit [vI v56] h55 (rI fun v58 h57 => (v58 = 0 → ob (isOb wdC r0 4) (Call wdC d mX3_get [vR 3, vI (gS h57 r0 4)] h57 (rI fun v60 h59 => (x3 = 0 → (x4 = 0 → Call wdC d mX7_isWordPart [vI v60] h59 (rI fun v62 h61 => (v62 ≠ 0 → R (some (vI 0)) h61) ∧ (¬ (v62 ≠ 0) → (v60 = 40 → R (some (vI 0)) h61) ∧ (¬ (v60 = 40) → (v60 = 33 → R (some (vI 0)) h61) ∧ (¬ (v60 = 33) → R (some (vI 1)) h61))))) ∧ (¬ (x4 = 0) → (x5 = 0 → R (some (vI 0)) h59) ∧ (¬ (x5 = 0) → ob (isOb wdC r0 4) (((gS h59 r0 1) < 1 → R (some (vI 0)) h59) ∧ (¬ ((gS h59 r0 1) < 1) → ob (isOb wdC r0 4) ((1048576 < (gS h59 r0 1) → R (some (vI 0)) h59) ∧ (¬ (1048576 < (gS h59 r0 1)) → Call wdC d mX7_isWordPart [vI v60] h59 (rI fun v64 h63 => (v64 ≠ 0 → R (some (vI 0)) h63) ∧ (¬ (v64 ≠ 0) → (v60 = 40 → R (some (vI 0)) h63) ∧ (¬ (v60 = 40) → (v60 = 33 → R (some (vI 0)) h63) ∧ (¬ (v60 = 33) → R (some (vI 1)) h63))))))))))) ∧ (¬ (x3 = 0) → ob (isOb wdC r0 4) (((gS h59 r0 0) < 1 → R (some (vI 0)) h59) ∧ (¬ ((gS h59 r0 0) < 1) → ob (isOb wdC r0 4) ((16384 < (gS h59 r0 0) → R (some (vI 0)) h59) ∧ (¬ (16384 < (gS h59 r0 0)) → (x4 = 0 → Call wdC d mX7_isWordPart [vI v60] h59 (rI fun v66 h65 => (v66 ≠ 0 → R (some (vI 0)) h65) ∧ (¬ (v66 ≠ 0) → (v60 = 40 → R (some (vI 0)) h65) ∧ (¬ (v60 = 40) → (v60 = 33 → R (some (vI 0)) h65) ∧ (¬ (v60 = 33) → R (some (vI 1)) h65))))) ∧ (¬ (x4 = 0) → (x5 = 0 → R (some (vI 0)) h59) ∧ (¬ (x5 = 0) → ob (isOb wdC r0 4) (((gS h59 r0 1) < 1 → R (some (vI 0)) h59) ∧ (¬ ((gS h59 r0 1) < 1) → ob (isOb wdC r0 4) ((1048576 < (gS h59 r0 1) → R (some (vI 0)) h59) ∧ (¬ (1048576 < (gS h59 r0 1)) → Call wdC d mX7_isWordPart [vI v60] h59 (rI fun v68 h67 => (v68 ≠ 0 → R (some (vI 0)) h67) ∧ (¬ (v68 ≠ 0) → (v60 = 40 → R (some (vI 0)) h67) ∧ (¬ (v60 = 40) → (v60 = 33 → R (some (vI 0)) h67) ∧ (¬ (v60 = 33) → R (some (vI 1)) h67)))))))))))))))))) ∧ (¬ (v58 = 0) → ob (isOb wdC r0 4) (inR ((gS h57 r0 1) * 10) ∧ (ob (isOb wdC r0 4) (Call wdC d mX3_get [vR 3, vI (gS h57 r0 4)] h57 (rI fun v70 h69 => inR (((gS h57 r0 1) * 10) + v70) ∧ (inR ((((gS h57 r0 1) * 10) + v70) - 48) ∧ (ob (isOb wdC r0 4) (ob (isOb wdC r0 4) (inR ((gS h69 r0 4) + 1) ∧ (ob (isOb wdC r0 4) (inR (x6 + 1) ∧ (At wdC (d + 1) mX5_isAt 188 [some (vR r0), some (vR 3), none, some (vI x3), some (vI x4), some (vI x5), some (vI (x6 + 1))] [] (pS (pS h69 r0 1 ((((gS h57 r0 1) * 10) + v70) - 48)) r0 4 ((gS h69 r0 4) + 1)) R)))))))))))))))))) : At wdC (d + 1) mX5_isAt 188 [some (vR r0), some (vR 3), none, some (vI x3), some (vI x4), some (vI x5), some (vI x6)] [] h R :=
  At.wp 400 kX5_isAt [(57, [true, true, false, true, true, true, false]), (188, [true, true, false, true, true, true, true])] okX5_isAt rfl ⟨_, _, _, rfl⟩ H
set_option maxRecDepth 20000 in
theorem sX6_count {d : Nat} {R : AR} {h : AH} {r : Nat}
    (H : ob (isOb wdC r 5) (R (some (vI (gS h r 3))) h)) : At wdC d mX6_count 0 [some (vR r)] [] h R :=
  At.wp 400 kX6_count [] okX6_count rfl ⟨_, _, _, rfl⟩ H
set_option maxRecDepth 20000 in
theorem sX6_isOverfull {d : Nat} {R : AR} {h : AH} {r : Nat}
    (H : ob (isOb wdC r 5) (zok (gS h r 4) (R (some (vI (gS h r 4))) h))) : At wdC d mX6_isOverfull 0 [some (vR r)] [] h R :=
  At.wp 400 kX6_isOverfull [] okX6_isOverfull rfl ⟨_, _, _, rfl⟩ H
set_option maxRecDepth 20000 in
theorem sX6_length {d : Nat} {R : AR} {h : AH} {r : Nat} {x1 : Int}
    (H : (x1 < 0 → R (some (vI 0)) h) ∧ (¬ (x1 < 0) → ob (isOb wdC r 5) (((gS h r 3) ≤ x1 → R (some (vI 0)) h) ∧ (¬ ((gS h r 3) ≤ x1) → ob (isOb wdC r 5) (inR (x1 + 1) ∧ (ob (isOb wdC (rfk wdC r 2) 2) (Call wdC d mX3_get [vR (rfk wdC r 2), vI (x1 + 1)] h (rI fun v2 h1 => ob (isOb wdC r 5) (ob (isOb wdC (rfk wdC r 2) 2) (Call wdC d mX3_get [vR (rfk wdC r 2), vI x1] h1 (rI fun v4 h3 => inR (v2 - v4) ∧ (R (some (vI (v2 - v4))) h3)))))))))))) : At wdC (d + 1) mX6_length 0 [some (vR r), some (vI x1)] [] h R :=
  At.wp 400 kX6_length [] okX6_length rfl ⟨_, _, _, rfl⟩ H
set_option maxRecDepth 20000 in
theorem sX6_letter {d : Nat} {R : AR} {h : AH} {r : Nat} {x1 : Int} {x2 : Int}
    (H : (x1 < 0 → R (some (vI 0)) h) ∧ (¬ (x1 < 0) → ob (isOb wdC r 5) (((gS h r 3) ≤ x1 → R (some (vI 0)) h) ∧ (¬ ((gS h r 3) ≤ x1) → (0 ≤ x2 → ob (isOb wdC r 5) (ob (isOb wdC (rfk wdC r 2) 2) (Call wdC d mX3_get [vR (rfk wdC r 2), vI x1] h (rI fun v2 h1 => ob (isOb wdC r 5) (inR (x1 + 1) ∧ (ob (isOb wdC (rfk wdC r 2) 2) (Call wdC d mX3_get [vR (rfk wdC r 2), vI (x1 + 1)] h1 (rI fun v4 h3 => inR (v4 - v2) ∧ (((v4 - v2) ≤ x2 → R (some (vI 0)) h3) ∧ (¬ ((v4 - v2) ≤ x2) → ob (isOb wdC r 5) (inR (v2 + x2) ∧ (ob (isOb wdC (rfk wdC r 1) 2) (Call wdC d mX3_get [vR (rfk wdC r 1), vI (v2 + x2)] h3 (rI fun v6 h5 => R (some (vI v6)) h5)))))))))))))) ∧ (¬ (0 ≤ x2) → R (some (vI 0)) h))))) : At wdC (d + 1) mX6_letter 0 [some (vR r), some (vI x1), some (vI x2), none] [] h R :=
  At.wp 400 kX6_letter [] okX6_letter rfl ⟨_, _, _, rfl⟩ H
set_option maxRecDepth 20000 in
theorem sX6_find {d : Nat} {R : AR} {h : AH} {r : Nat} {r1 : Nat} {x2 : Int} {x3 : Int}
    (H : inR (x3 - x2) ∧ (At wdC (d + 1) mX6_find 8 [some (vR r), some (vR r1), some (vI x2), none, some (vI (x3 - x2)), some (vI 0), none, none] [] h R)) : At wdC (d + 1) mX6_find 0 [some (vR r), some (vR r1), some (vI x2), some (vI x3), none, none, none, none] [] h R :=
  At.wp 400 kX6_find [(8, [true, true, true, false, true, true, false, false]), (59, [true, true, true, false, true, true, true, true])] okX6_find rfl ⟨_, _, _, rfl⟩ H
set_option maxRecDepth 20000 in
theorem sX6_find_8 {d : Nat} {R : AR} {h : AH} {r0 : Nat} {r1 : Nat} {x2 : Int} {x4 : Int} {x5 : Int}
    (H : ob (isOb wdC r0 5) (ob (isOb wdC (rfk wdC r0 2) 2) (Call wdC d mX3_size [vR (rfk wdC r0 2)] h (rI fun v2 h1 => inR (v2 - 1) ∧ (((v2 - 1) ≤ x5 → R (some (vI (-1))) h1) ∧ (¬ ((v2 - 1) ≤ x5) → ob (isOb wdC r0 5) (ob (isOb wdC (rfk wdC r0 2) 2) (Call wdC d mX3_get [vR (rfk wdC r0 2), vI x5] h1 (rI fun v4 h3 => ob (isOb wdC r0 5) (inR (x5 + 1) ∧ (ob (isOb wdC (rfk wdC r0 2) 2) (Call wdC d mX3_get [vR (rfk wdC r0 2), vI (x5 + 1)] h3 (rI fun v6 h5 => inR (v6 - v4) ∧ (((v6 - v4) ≠ x4 → At wdC (d + 1) mX6_find 59 [some (vR r0), some (vR r1), some (vI x2), none, some (vI x4), some (vI x5), some (vI v4), some (vI (-1))] [] h5 R) ∧ (¬ ((v6 - v4) ≠ x4) → At wdC (d + 1) mX6_find 59 [some (vR r0), some (vR r1), some (vI x2), none, some (vI x4), some (vI x5), some (vI v4), some (vI 0)] [] h5 R))))))))))))))) : At wdC (d + 1) mX6_find 8 [some (vR r0), some (vR r1), some (vI x2), none, some (vI x4), some (vI x5), none, none] [] h R :=
  At.wp 400 kX6_find [(8, [true, true, true, false, true, true, false, false]), (59, [true, true, true, false, true, true, true, true])] okX6_find rfl ⟨_, _, _, rfl⟩ H
set_option maxRecDepth 20000 in
theorem sX6_find_59 {d : Nat} {R : AR} {h : AH} {r0 : Nat} {r1 : Nat} {x2 : Int} {x4 : Int} {x5 : Int} {x6 : Int} {x7 : Int}
    (H : (x7 < 0 → (x7 ≠ x4 → inR (x5 + 1) ∧ (At wdC (d + 1) mX6_find 8 [some (vR r0), some (vR r1), some (vI x2), none, some (vI x4), some (vI (x5 + 1)), none, none] [] h R)) ∧ (¬ (x7 ≠ x4) → R (some (vI x5)) h)) ∧ (¬ (x7 < 0) → (x4 ≤ x7 → (x7 ≠ x4 → inR (x5 + 1) ∧ (At wdC (d + 1) mX6_find 8 [some (vR r0), some (vR r1), some (vI x2), none, some (vI x4), some (vI (x5 + 1)), none, none] [] h R)) ∧ (¬ (x7 ≠ x4) → R (some (vI x5)) h)) ∧ (¬ (x4 ≤ x7) → ob (isOb wdC r0 5) (inR (x6 + x7) ∧ (ob (isOb wdC (rfk wdC r0 1) 2) (Call wdC d mX3_get [vR (rfk wdC r0 1), vI (x6 + x7)] h (rI fun v8 h7 => Call wdC d mX7_capital [vI v8] h7 (rI fun v10 h9 => inR (x2 + x7) ∧ (ob (isOb wdC r1 2) (Call wdC d mX3_get [vR r1, vI (x2 + x7)] h9 (rI fun v12 h11 => Call wdC d mX7_capital [vI v12] h11 (rI fun v14 h13 => (v10 ≠ v14 → (x7 ≠ x4 → inR (x5 + 1) ∧ (At wdC (d + 1) mX6_find 8 [some (vR r0), some (vR r1), some (vI x2), none, some (vI x4), some (vI (x5 + 1)), none, none] [] h13 R)) ∧ (¬ (x7 ≠ x4) → R (some (vI x5)) h13)) ∧ (¬ (v10 ≠ v14) → inR (x7 + 1) ∧ (At wdC (d + 1) mX6_find 59 [some (vR r0), some (vR r1), some (vI x2), none, some (vI x4), some (vI x5), some (vI x6), some (vI (x7 + 1))] [] h13 R)))))))))))))) : At wdC (d + 1) mX6_find 59 [some (vR r0), some (vR r1), some (vI x2), none, some (vI x4), some (vI x5), some (vI x6), some (vI x7)] [] h R :=
  At.wp 400 kX6_find [(8, [true, true, true, false, true, true, false, false]), (59, [true, true, true, false, true, true, true, true])] okX6_find rfl ⟨_, _, _, rfl⟩ H
set_option maxRecDepth 20000 in
theorem sX6_add {d : Nat} {R : AR} {h : AH} {r : Nat}  {x2 : Int} {x3 : Int}
    (H : ob (isOb wdC r 5) (ob (isOb wdC (rfk wdC r 2) 2) (Call wdC d mX3_size [vR (rfk wdC r 2)] h (rI fun v2 h1 => inR (v2 - 1) ∧ (ob (isOb wdC r 5) (((v2 - 1) < (gS h1 r 0) → At wdC (d + 1) mX6_add 30 [some (vR r), some (vR 3), none, some (vI x3), some (vI (v2 - 1)), some (vI x2)] [] h1 R) ∧ (¬ ((v2 - 1) < (gS h1 r 0)) → ob (isOb wdC r 5) (R (some (vI 0)) (pS h1 r 4 1))))))))) : At wdC (d + 1) mX6_add 0 [some (vR r), some (vR 3), some (vI x2), some (vI x3), none, none] [] h R :=
  At.wp 400 kX6_add [(30, [true, true, false, true, true, true])] okX6_add rfl ⟨_, _, _, rfl⟩ H
set_option maxRecDepth 20000 in
theorem sX6_add_30 {d : Nat} {R : AR} {h : AH} {r0 : Nat} {x3 : Int} {x4 : Int} {x5 : Int}
    (H : (x3 ≤ x5 → ob (isOb wdC r0 5) (ob (isOb wdC r0 5) (ob (isOb wdC (rfk wdC r0 1) 2) (Call wdC d mX3_size [vR (rfk wdC r0 1)] h (rI fun v4 h3 => ob (isOb wdC (rfk wdC r0 2) 2) (Call wdC d mX3_add [vR (rfk wdC r0 2), vI v4] h3 (rV fun h5 => R (some (vI x4)) h5))))))) ∧ (¬ (x3 ≤ x5) → ob (isOb wdC r0 5) (Call wdC d mX3_get [vR 3, vI x5] h (rI fun v7 h6 => ob (isOb wdC (rfk wdC r0 1) 2) (Call wdC d mX3_add [vR (rfk wdC r0 1), vI v7] h6 (rV fun h8 => inR (x5 + 1) ∧ (At wdC (d + 1) mX6_add 30 [some (vR r0), some (vR 3), none, some (vI x3), some (vI x4), some (vI (x5 + 1))] [] h8 R))))))) : At wdC (d + 1) mX6_add 30 [some (vR r0), some (vR 3), none, some (vI x3), some (vI x4), some (vI x5)] [] h R :=
  At.wp 400 kX6_add [(30, [true, true, false, true, true, true])] okX6_add rfl ⟨_, _, _, rfl⟩ H
set_option maxRecDepth 20000 in
theorem sX6_keep {d : Nat} {R : AR} {h : AH} {r : Nat}
    (H : ob (isOb wdC r 5) (ob (isOb wdC (rfk wdC r 2) 2) (Call wdC d mX3_size [vR (rfk wdC r 2)] h (rI fun v2 h1 => inR (v2 - 1) ∧ (ob (isOb wdC r 5) (R none (pS h1 r 3 (v2 - 1)))))))) : At wdC (d + 1) mX6_keep 0 [some (vR r)] [] h R :=
  At.wp 400 kX6_keep [] okX6_keep rfl ⟨_, _, _, rfl⟩ H
set_option maxRecDepth 20000 in
theorem sX6_forget {d : Nat} {R : AR} {h : AH} {r : Nat}
    (H : ob (isOb wdC r 5) (ob (isOb wdC r 5) (inR ((gS h r 3) + 1) ∧ (ob (isOb wdC (rfk wdC r 2) 2) (Call wdC d mX3_cut [vR (rfk wdC r 2), vI ((gS h r 3) + 1)] h (rV fun h1 => ob (isOb wdC r 5) (ob (isOb wdC r 5) (ob (isOb wdC (rfk wdC r 2) 2) (Call wdC d mX3_last [vR (rfk wdC r 2)] h1 (rI fun v3 h2 => ob (isOb wdC (rfk wdC r 1) 2) (Call wdC d mX3_cut [vR (rfk wdC r 1), vI v3] h2 (rV fun h4 => ob (isOb wdC r 5) (R none (pS h4 r 4 0)))))))))))))) : At wdC (d + 1) mX6_forget 0 [some (vR r)] [] h R :=
  At.wp 400 kX6_forget [] okX6_forget rfl ⟨_, _, _, rfl⟩ H
end
section
/-! Row: its contracts -/
theorem row_all : ∀ r : Nat, r < 45 → isOb wdC r 2 = true → rfk wdC r 0 = r + 1 ∧ isAb wdC (r + 1) 0 = true ∧ isAn wdC (r + 1) = true := by decide +kernel
theorem row_lt {r : Nat} (hr : isOb wdC r 2 = true) : r < 45 := by
  simp only [isOb, Bool.and_eq_true, Nat.blt_eq] at hr
  exact hr.1
theorem row_f {r : Nat} (hr : isOb wdC r 2 = true) : rfk wdC r 0 = r + 1 ∧ isAb wdC (r + 1) 0 = true ∧ isAn wdC (r + 1) = true := row_all r (row_lt hr) hr
/-- the number at a place -/
def rgt (h : AH) (r : Nat) (x : Int) : Int := if 0 ≤ x ∧ x < gS h r 1 ∧ x < alen wdC (r + 1) then gA h (r + 1) x else 0
theorem c_get {d r : Nat} {x : Int} {h : AH} {R : AR} (hr : isOb wdC r 2 = true) (k : R (some (vI (rgt h r x))) h) : Call wdC d mX3_get [vR r, vI x] h R := by
  obtain ⟨h1, h2, h3⟩ := row_f hr
  refine Call.of (by decide) (Nat.le_of_ble_eq_true rfl) (sX3_get ?_)
  rw [h1]
  refine ⟨fun c => ?_, fun c => ob_in hr ⟨fun c2 => ?_, fun c2 => ob_in hr (ob_in h3 ⟨fun c3 => ?_, fun c3 => ob_in hr (ob_in h2 ⟨by omega, ?_⟩)⟩)⟩⟩
  · rwa [rgt, if_neg (by omega)] at k
  · rwa [rgt, if_neg (by omega)] at k
  · rwa [rgt, if_neg (by omega)] at k
  · rwa [rgt, if_pos (by omega)] at k
theorem c_size {d r : Nat} {h : AH} {R : AR} (hr : isOb wdC r 2 = true) (k : R (some (vI (gS h r 1))) h) : Call wdC d mX3_size [vR r] h R :=
  Call.of (by decide) (Nat.le_of_ble_eq_true rfl) (sX3_size (ob_in hr k))
/-- behind add -/
def addR (h : AH) (r : Nat) (x : Int) : AH := if 0 ≤ gS h r 1 ∧ gS h r 1 < alen wdC (r + 1) then pS (pA h (r + 1) (gS h r 1).toNat x) r 1 (gS h r 1 + 1) else h
theorem cap_R (r : Nat) (hr : isOb wdC r 2 = true) : alen wdC (r + 1) ≤ 2147483647 := by
  have := (row_f hr).2.2
  simp only [isAn, Bool.and_eq_true, Nat.ble_eq] at this
  show (((wdC.2.1 (r + 1)).2.2 : Nat) : Int) ≤ 2147483647
  omega
theorem c_add {d r : Nat} {x : Int} {h : AH} {R : AR} (hr : isOb wdC r 2 = true) (k : R none (addR h r x)) : Call wdC d mX3_add [vR r, vI x] h R := by
  obtain ⟨h1, h2, h3⟩ := row_f hr
  have hc := cap_R r hr
  refine Call.of (by decide) (Nat.le_of_ble_eq_true rfl) (sX3_add ?_)
  rw [h1]
  refine ob_in hr ⟨fun c => ?_, fun c => ob_in hr (ob_in hr (ob_in h3 ⟨fun c2 => ?_, fun c2 => ob_in hr (ob_in hr (ob_in h2 ⟨by omega, ob_in hr ⟨by constructor <;> omega, ob_in hr ?_⟩⟩))⟩))⟩
  · rwa [addR, if_neg (by omega)] at k
  · rwa [addR, if_neg (by omega)] at k
  · rwa [addR, if_pos (by omega)] at k
end
