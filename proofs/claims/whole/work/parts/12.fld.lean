/-! fields -/
def lyP : List (List Nat) := [[1201, 1203, 1205, 1207, 1209, 1211, 1213, 1215, 1217, 1219, 1221],
  [1151, 1153, 1155, 1157, 1159, 1161, 1163, 1165, 1167, 1169, 1171, 1173, 1175, 1177, 1179],
  [1034, 1036],
  [1111, 1113, 1115, 1117, 1119, 1121, 1123, 1125],
  [1092, 1094, 1096, 1098, 1100],
  [1057, 1059, 1061, 1063, 1065],
  [1235, 1237, 1239, 2001, 2003, 2005, 2007, 2009, 2011, 2013, 2015],
  [5176, 5178, 5180, 5182, 5184, 5186, 5188, 5190, 5192, 5194, 5196, 5198, 5200, 5202, 5204, 5206, 5208, 5210, 5212, 5214, 5216, 5218, 5220, 5222, 5224, 5226, 5228, 5230, 5232, 5234, 5236, 5238, 6000, 6002, 6004, 6006, 6008, 6010, 6012, 6014, 6016, 6018, 6020, 6022, 6024, 6026, 6028, 6030, 6032, 6034, 6036, 6038, 6040, 6042, 6044, 6046]]
def clU (ci : Nat) : List Cond := u_ws (clA ci).1 (clA ci).2.1 (clA ci).2.2
theorem lyP_ok : (List.range 8).all (fun ci => decide ((lyP.getD ci []).map tg = (clU ci).map some) && (clU ci).all goodWord) = true := by decide +kernel
theorem clU_in {ci : Nat} (hc : ci < 8) : ∀ w ∈ clU ci, w ∈ tb := by
  have h := List.all_eq_true.mp lyP_ok ci (List.mem_range.mpr hc)
  simp only [Bool.and_eq_true, decide_eq_true_eq] at h
  intro w hw
  have h1 : some w ∈ (lyP.getD ci []).map tg := by rw [h.1]; exact List.mem_map.mpr ⟨w, hw, rfl⟩
  obtain ⟨p, -, hp⟩ := List.mem_map.mp h1
  exact tb_in hp (List.all_eq_true.mp h.2 w hw)
theorem clA_at {ci : Nat} (hc : ci < 8) : vwCl[ci]? = some ((clA ci).1, (clA ci).2.1, (clA ci).2.2) := by
  have hl : ci < vwCl.length := hc
  unfold clA
  rw [List.getD_eq_getElem?_getD, List.getElem?_eq_getElem hl]
  rfl
def tyC (ci k : Nat) : FieldType := (parseFieldDescriptor ((clA ci).2.1 k).2.2.1).getD .int
theorem tyC_all : (List.range 8).all (fun ci => (List.range (clA ci).2.2).all fun k => decide (parseFieldDescriptor ((clA ci).2.1 k).2.2.1 = some (tyC ci k))) = true := by decide +kernel
theorem tyC_ok {ci : Nat} (hc : ci < 8) : ∀ k, k < (clA ci).2.2 → parseFieldDescriptor ((clA ci).2.1 k).2.2.1 = some (tyC ci k) := by
  intro k hk
  have h := List.all_eq_true.mp (List.all_eq_true.mp tyC_all ci (List.mem_range.mpr hc)) k (List.mem_range.mpr hk)
  simpa using h
theorem nmC : ∀ ci, ci < 8 → ∀ a, a < (clA ci).2.2 → ∀ b, b < (clA ci).2.2 → a ≠ b → ((clA ci).2.1 a).2.1 ≠ ((clA ci).2.1 b).2.1
  | 0, _ => nmX1
  | 1, _ => nmX2
  | 2, _ => nmX3
  | 3, _ => nmX4
  | 4, _ => nmX5
  | 5, _ => nmX6
  | 6, _ => nmX7
  | 7, _ => nmX8
  | _ + 8, h => absurd h (by omega)
def fT (ci y : Nat) : String × String × String × Bool := (clA ci).2.1 y
def wF (own : String) (idx ci y : Nat) : Cond := .fieldLink own idx (fT ci y).1 (fT ci y).2.1 (fT ci y).2.2.1
def wFN (own : String) (idx ci y : Nat) : Cond := .fieldLinkNest own idx (fT ci y).1 (fT ci y).2.1 (fT ci y).2.2.1 "FormulaCode"
def ckF (own : String) (idx ci y w : Nat) : Bool := Nat.blt ci 8 && (Nat.blt y (clA ci).2.2 && (decide (tg w = some (wF own idx ci y)) || decide (tg w = some (wFN own idx ci y))))
theorem ckF_spec {own : String} {idx ci y w : Nat} (h : ckF own idx ci y w = true) : ci < 8 ∧ y < (clA ci).2.2 ∧ (wF own idx ci y ∈ tb ∨ wFN own idx ci y ∈ nst) := by
  simp only [ckF, Bool.and_eq_true, Bool.or_eq_true, decide_eq_true_eq, Nat.blt_eq] at h
  exact ⟨h.1, h.2.1, h.2.2.imp (fun q => tb_in q rfl) (fun q => nst_in q rfl)⟩
theorem fvl_get {wd : WD} {ad : Nat → Nat} {h : AH} {k ci j : Nat} (hj : j < (clA ci).2.2) : (fvl wd ad h k ci)[j]? = some (bif isRf ci j then .ref (ad (rfk wd k j)) else .int (Int32.ofInt (h.1 k j))) := by
  unfold fvl
  rw [List.getElem?_map, List.getElem?_range hj]
  rfl
theorem fvl_set {wd : WD} {ad : Nat → Nat} {h : AH} {k ci j : Nat} {z : Int} (hr : isRf ci j = false) : (fvl wd ad h k ci).set j (.int (Int32.ofInt z)) = fvl wd ad (pS h k j z) k ci := by
  apply List.ext_getElem?
  intro i
  unfold fvl
  rw [List.getElem?_set]
  simp only [List.length_map, List.length_range, List.getElem?_map]
  by_cases e : j = i
  · subst e
    rw [if_pos rfl]
    by_cases hk : j < (clA ci).2.2
    · rw [if_pos hk, List.getElem?_range hk]
      simp only [Option.map_some, hr, cond_false]
      show _ = some (Value.int (Int32.ofInt (if j = j ∧ k = k then z else h.1 k j)))
      simp
    · rw [if_neg hk, List.getElem?_eq_none (by simpa using Nat.le_of_not_lt hk)]; rfl
  · rw [if_neg e]
    by_cases hk : i < (clA ci).2.2
    · rw [List.getElem?_range hk]
      simp only [Option.map_some]
      show _ = some (bif isRf ci i then Value.ref (ad (rfk wd k i)) else .int (Int32.ofInt (if i = j ∧ k = k then z else h.1 k i)))
      rw [if_neg (fun q => e q.1.symm)]
    · rw [List.getElem?_eq_none (by simpa using Nat.le_of_not_lt hk)]; rfl
section OKF
variable {wd : WD} {d m pc pc' len : Nat} {R : AR} {L : AL} {st st' : List AV} {h : AH} {nx : AL → List AV → AH → Prop} {jp : Nat → AL → List AV → AH → Prop} {call : Nat → List AV → AH → AR → Prop} {idx x y w : Nat} {z : Int}
theorem Cx.tb {p : Program} {s : State} {mi : MethodId} {args : Array Value} {meth : Method} {c : Code} {D : va_G} {aT : Nat → ClassId} {ad : Nat → Nat} {A : Nat → Prop} (C : Cx m p s mi args meth c D aT ad A) : ∀ w ∈ tb, w.before args s = true := fun w hw => C.2.2.2.2.2.1 w (List.mem_cons_of_mem _ hw)
theorem Cx.nst {p : Program} {s : State} {mi : MethodId} {args : Array Value} {meth : Method} {c : Code} {D : va_G} {aT : Nat → ClassId} {ad : Nat → Nat} {A : Nat → Prop} (C : Cx m p s mi args meth c D aT ad A) : ∀ w ∈ nst, va_Nw w s := C.2.2.2.2.2.2.2.2.2.2.2.2.2.2
theorem fld_get {v : Value} (hc : ckF (mt m).1.cls idx x y w = true) (hd : decode (mt m).2.1 pc = .ok (.getfield idx, 3)) {p : Program} {l : Launch} {e : Env} {s : State} {mi : MethodId} {args : Array Value} {below : List Frame} {meth : Method} {c : Code} {D : va_G} {aT : Nat → ClassId} {ad : Nat → Nat} {A : Nat → Prop} {H : Heap} {locs : List Loc} {ls : Array Slot} {Q : State → Prop} {rest : List Value} {k : Nat} (C : Cx m p s mi args meth c D aT ad A) (hP : va_P D vwCl (wsO wd aT ad h) H) (hb : isOb wd k x = true) (hv : (fvl wd ad h k x)[y]? = some v)
    (kk : W p l e (rmD d) s mi args below meth c H locs 0 0 Q (F0 mi (pc + 3) ls (v :: rest))) : W p l e (rmD d) s mi args below meth c H locs 0 0 Q (F0 mi pc ls (.ref (ad k) :: rest)) := by
  obtain ⟨h1, h2, h3⟩ := ckF_spec hc
  obtain ⟨a, b⟩ := cel_obj (aT := aT) (ad := ad) (h := h) hb
  have he : (wsO wd aT ad h)[k]? = some (ad k, .inr (x, fvl wd ad h k x)) := by rw [wsO_get a, b]
  rcases h3 with h3 | h3
  · exact va_get C.1 C.2.1 C.tb (clU_in h1) C.2.2.2.2.1 C.2.2.2.2.2.2.2.2.1 hP k he (clA_at h1) y h2 (C.tb _ h3) (fun _ q => q) hv hd kk
  · exact va_getN C.1 C.2.1 C.tb (clU_in h1) C.2.2.2.2.1 C.2.2.2.2.2.2.2.2.1 hP k he (clA_at h1) y h2 (va_Nw.use rfl (C.nst _ h3)) (fun _ q => q) hv hd kk
theorem ok_getI (hc : ckF (mt m).1.cls idx x y w = true) (hr : isRf x y = false) (hd : decode (mt m).2.1 pc = .ok (.getfield idx, 3)) (hn : HN wd d m (pc + 3) R nx) (hw : wpX wd call R L st h nx (0, idx, x, y, w, z)) : At wd d m pc L st h R := by
  obtain ⟨k, st', e, hw⟩ := r1_spec hw
  obtain ⟨hb, h2⟩ := ob_spec hw
  subst e
  intro p l e s mi args below meth c D aT ad A H locs ls C hP hD hS hH hL hs hlv
  refine fld_get (v := .int (Int32.ofInt (h.1 k y))) hc hd C hP hb (by rw [fvl_get (ckF_spec hc).2.1, hr]; rfl) ?_
  exact hn _ _ _ h2 p l e s mi args below meth c D aT ad A H locs ls C hP hD hS hH hL (hs.tl.cons (v := .inl (h.1 k y)) (hH.1 k y)) hlv
theorem ok_getR (hc : ckF (mt m).1.cls idx x y w = true) (hr : isRf x y = true) (hd : decode (mt m).2.1 pc = .ok (.getfield idx, 3)) (hn : HN wd d m (pc + 3) R nx) (hw : wpX wd call R L st h nx (1, idx, x, y, w, z)) : At wd d m pc L st h R := by
  obtain ⟨k, st', e, hw⟩ := r1_spec hw
  obtain ⟨hb, h2⟩ := ob_spec hw
  subst e
  intro p l e s mi args below meth c D aT ad A H locs ls C hP hD hS hH hL hs hlv
  refine fld_get (v := .ref (ad (rfk wd k y))) hc hd C hP hb (by rw [fvl_get (ckF_spec hc).2.1, hr]; rfl) ?_
  exact hn _ _ _ h2 p l e s mi args below meth c D aT ad A H locs ls C hP hD hS hH hL (hs.tl.cons (v := .inr (.inr (rfk wd k y))) trivial) hlv
theorem cel_pS {aT : Nat → ClassId} {ad : Nat → Nat} {k i j : Nat} {v : Int} (e : j ≠ k) : cel wd aT ad (pS h k i v) j = cel wd aT ad h j := by
  have h2 : ∀ q, (pS h k i v).1 j q = h.1 j q := fun q => by
    show (if q = i ∧ j = k then v else h.1 j q) = _
    rw [if_neg (fun x => e x.2)]
  unfold cel fvl
  simp only [h2]
  rfl
theorem okH_pS {k i : Nat} {v : Int} (hH : okH wd h) (hv : inR v) : okH wd (pS h k i v) := by
  refine ⟨fun a b => ?_, hH.2⟩
  show inR (if b = i ∧ a = k then v else h.1 a b)
  by_cases e : b = i ∧ a = k
  · rw [if_pos e]; exact hv
  · rw [if_neg e]; exact hH.1 a b
theorem fld_put {v : Int} {ty : FieldType} (hc : ckF (mt m).1.cls idx x y w = true) (hf : (fT x y).2.2.2 = false) (hr : isRf x y = false) (hty : parseFieldDescriptor (fT x y).2.2.1 = some ty) (hnar : narrow ty (.int (Int32.ofInt v)) = .int (Int32.ofInt v)) (hfit : fits ty (.int (Int32.ofInt v)) = true) (hd : decode (mt m).2.1 pc = .ok (.putfield idx, 3)) {k : Nat} (hb : isOb wd k x = true) (hn : HN wd d m (pc + 3) R nx) (hw : nx L st' (pS h k y v)) : At wd d m pc L (.inl v :: .inr (.inr k) :: st') h R := by
  intro p l e s mi args below meth c D aT ad A H locs ls C hP hD hS hH hL hs hlv
  obtain ⟨h1, h2, h3⟩ := ckF_spec hc
  obtain ⟨a, b⟩ := cel_obj (aT := aT) (ad := ad) (h := h) hb
  have he : (wsO wd aT ad h)[k]? = some (ad k, .inr (x, fvl wd ad h k x)) := by rw [wsO_get a, b]
  have hse : (wsO wd aT ad h).set k (ad k, .inr (x, (fvl wd ad h k x).set y (.int (Int32.ofInt v)))) = wsO wd aT ad (pS h k y v) := by
    refine wsO_set ?_ (fun j e => cel_pS e)
    rw [(cel_obj hb).2, fvl_set hr]
  have kk : ∀ (H1 : Heap) (locs1 : List Loc), va_P D vwCl ((wsO wd aT ad h).set k (ad k, .inr (x, (fvl wd ad h k x).set y (.int (Int32.ofInt v))))) H1 → va_D A ((wsO wd aT ad h).set k (ad k, .inr (x, (fvl wd ad h k x).set y (.int (Int32.ofInt v))))) → va_S A s.heap H1 locs1 → W p l e (rmD d) s mi args below meth c H1 locs1 0 0 (MQ below (Qr wd D aT ad A R) args s 0 0 A) (F0 mi (pc + 3) ls (st'.map (cv ad))) := by
    intro H1 locs1 hP1 hD1 hS1
    rw [hse] at hP1 hD1
    exact hn _ _ _ hw p l e s mi args below meth c D aT ad A H1 locs1 ls C hP1 hD1 hS1 (okH_pS hH hs.hd) hL hs.tl.tl hlv
  have hlen : y < (fvl wd ad h k x).length := by unfold fvl; simpa using h2
  rcases h3 with h3 | h3
  · exact va_put C.1 C.2.1 C.tb (clU_in h1) (tyC x) (tyC_ok h1) (nmC x h1) C.2.2.2.2.1 C.2.2.2.2.2.2.2.2.1 hP hD hS k he (clA_at h1) y h2 (C.tb _ h3) (fun _ q => q) hf hty hnar hfit hlen hd kk
  · exact va_putN C.1 C.2.1 C.tb (clU_in h1) (tyC x) (tyC_ok h1) (nmC x h1) C.2.2.2.2.1 C.2.2.2.2.2.2.2.2.1 hP hD hS k he (clA_at h1) y h2 (va_Nw.use rfl (C.nst _ h3)) (fun _ q => q) hf hty hnar hfit hlen hd kk
theorem ok_putI (hc : ckF (mt m).1.cls idx x y w = true) (hf : (fT x y).2.2.2 = false) (hr : isRf x y = false) (hty : (fT x y).2.2.1 = "I") (hd : decode (mt m).2.1 pc = .ok (.putfield idx, 3)) (hn : HN wd d m (pc + 3) R nx) (hw : wpX wd call R L st h nx (2, idx, x, y, w, z)) : At wd d m pc L st h R := by
  obtain ⟨v, k, st', e, hw⟩ := ir_spec hw
  obtain ⟨hb, h2⟩ := ob_spec hw
  subst e
  exact fld_put (ty := .int) hc hf hr (by rw [hty]; decide +kernel) rfl rfl hd hb hn h2
theorem ok_putZ (hc : ckF (mt m).1.cls idx x y w = true) (hf : (fT x y).2.2.2 = false) (hr : isRf x y = false) (hty : (fT x y).2.2.1 = "Z") (hd : decode (mt m).2.1 pc = .ok (.putfield idx, 3)) (hn : HN wd d m (pc + 3) R nx) (hw : wpX wd call R L st h nx (3, idx, x, y, w, z)) : At wd d m pc L st h R := by
  obtain ⟨v, k, st', e, hw⟩ := ir_spec hw
  obtain ⟨hb, h32⟩ := ob_spec hw
  obtain ⟨h3, h2⟩ := zok_spec h32
  subst e
  exact fld_put (ty := .boolean) hc hf hr (by rw [hty]; decide +kernel) (by rcases h3 with rfl | rfl <;> rfl) (by rcases h3 with rfl | rfl <;> rfl) hd hb hn h2
end OKF
