/-! locals, cells -/
theorem lgt_lst_same : ∀ (L : AL) (i : Nat) (v : Option AV), i < L.length → lgt (lst L i v) i = v
  | _ :: _, 0, _, _ => rfl
  | _ :: L, i + 1, v, h => lgt_lst_same L i v (Nat.lt_of_succ_lt_succ h)
  | [], _, _, h => absurd h (Nat.not_lt_zero _)
theorem lgt_lst_ne : ∀ (L : AL) (i j : Nat) (v : Option AV), j ≠ i → lgt (lst L i v) j = lgt L j
  | [], _, _, _, _ => rfl
  | _ :: _, 0, 0, _, h => absurd rfl h
  | _ :: _, 0, _ + 1, _, _ => rfl
  | _ :: _, _ + 1, 0, _, _ => rfl
  | _ :: L, i + 1, j + 1, v, h => lgt_lst_ne L i j v (fun e => h (by rw [e]))
theorem lst_length : ∀ (L : AL) (i : Nat) (v : Option AV), (lst L i v).length = L.length
  | [], _, _ => rfl
  | _ :: _, 0, _ => rfl
  | _ :: L, i + 1, v => by simp [lst, lst_length L i v]
theorem lcl_length (L : AL) (k : Nat) : (lcl L k).length = L.length := by
  cases k with
  | zero => rfl
  | succ k =>
    show (bif is2 (lgt L k) then lst L k none else L).length = L.length
    cases is2 (lgt L k) <;> simp [lst_length]
theorem lcl_some {L : AL} {k i : Nat} {v : AV} (h : lgt (lcl L k) i = some v) : lgt L i = some v ∧ (i + 1 = k → is2 (some v) = false) := by
  cases k with
  | zero => exact ⟨h, fun e => absurd e (by omega)⟩
  | succ k =>
    have h : lgt (bif is2 (lgt L k) then lst L k none else L) i = some v := h
    cases hq : is2 (lgt L k) with
    | false =>
      rw [hq] at h
      refine ⟨h, fun e => ?_⟩
      have : i = k := by omega
      subst this
      have h' : lgt L i = some v := h
      rw [h'] at hq
      exact hq
    | true =>
      rw [hq] at h
      have h' : lgt (lst L k none) i = some v := h
      by_cases e : i = k
      · subst e
        by_cases hl : i < L.length
        · rw [lgt_lst_same _ _ _ hl] at h'
          cases h'
        · exfalso
          have : ∀ (L : AL) (i : Nat), L.length ≤ i → lgt L i = none := by
            intro L
            induction L with
            | nil => intro i _; rfl
            | cons u L ih =>
              intro i hi
              cases i with
              | zero => exact absurd hi (by simp)
              | succ i => exact ih i (by simpa using hi)
          rw [this _ _ (by rw [lst_length]; omega)] at h'
          cases h'
      · rw [lgt_lst_ne _ _ _ _ e] at h'
        exact ⟨h', fun e2 => absurd e2 (by omega)⟩
theorem lgt_out : ∀ (L : AL) (i : Nat), L.length ≤ i → lgt L i = none
  | [], _, _ => rfl
  | _ :: L, 0, h => absurd h (by simp)
  | _ :: L, i + 1, h => lgt_out L i (by simpa using h)
theorem lgt_lt {L : AL} {i : Nat} {v : AV} (h : lgt L i = some v) : i < L.length := by
  rcases Nat.lt_or_ge i L.length with q | q
  · exact q
  · rw [lgt_out L i q] at h; cases h
theorem lgt_lmk : ∀ (L : AL) (bs : List Bool) (i : Nat) (v : AV), lgt (lmk L bs) i = some v → lgt L i = some v
  | [], _, _, _, h => by simp [lmk, lgt] at h
  | _ :: _, [], _, _, h => by simp [lmk, lgt] at h
  | u :: L, b :: bs, 0, v, h => by
    cases b with
    | true => exact h
    | false => cases h
  | _ :: L, _ :: bs, i + 1, v, h => lgt_lmk L bs i v h
theorem lmk_length : ∀ (L : AL) (bs : List Bool), L.length = bs.length → (lmk L bs).length = L.length
  | [], _, _ => by simp [lmk]
  | _ :: _, [], h => by simp at h
  | _ :: L, _ :: bs, h => by simp [lmk, lmk_length L bs (by simpa using h)]
/-- the locals as the kit has them -/
def lta (ad : Nat → Nat) (L : AL) : List (Nat × Value) := (List.range L.length).filterMap fun i => (lgt L i).map fun v => (i, cv ad v)
theorem lta_mem {ad : Nat → Nat} {L : AL} {q : Nat × Value} : q ∈ lta ad L ↔ ∃ v, lgt L q.1 = some v ∧ q.2 = cv ad v := by
  unfold lta
  simp only [List.mem_filterMap, List.mem_range, Option.map_eq_some_iff]
  constructor
  · rintro ⟨i, hi, v, hv, rfl⟩
    exact ⟨v, hv, rfl⟩
  · rintro ⟨v, hv, he⟩
    exact ⟨q.1, lgt_lt hv, v, hv, by rw [← he]⟩
theorem lvP.has {ad : Nat → Nat} {ls : Array Slot} {n : Nat} {L : AL} (h : lvP ad ls n L) : lv_has ls n (lta ad L) := by
  refine ⟨h.1, h.2.1, fun q hq => ?_⟩
  obtain ⟨v, hv, he⟩ := lta_mem.mp hq
  rw [he]
  exact h.2.2.2 q.1 v hv
theorem lvP.of {ad : Nat → Nat} {ls : Array Slot} {n : Nat} {L : AL} {l : List (Nat × Value)} (h : lv_has ls n l) (hn : L.length = n) (hl : ∀ (i : Nat) (v : AV), lgt L i = some v → (i, cv ad v) ∈ l) : lvP ad ls n L :=
  ⟨h.1, h.2.1, hn, fun i v hv => h.2.2 _ (hl i v hv)⟩
theorem cv_cat1 {ad : Nat → Nat} {v : AV} (h : is2 (some v) = false) : (cv ad v).category = 1 := by
  match v, h with
  | .inl _, _ => rfl
  | .inr (.inr _), _ => rfl
theorem cv_cat2 {ad : Nat → Nat} {v : AV} (h : is2 (some v) = true) : (cv ad v).category = 2 := by
  match v, h with
  | .inr (.inl _), _ => rfl
/-- behind a store of one word -/
theorem lvP.st1 {ad : Nat → Nat} {ls : Array Slot} {n i : Nat} {L : AL} {v : AV} (hn : L.length = n) (h : lv_has ls n ((i, cv ad v) :: (lta ad L).filter (fun q => !(q.1 == i) && !(q.1 + 1 == i && q.2.category == 2)))) (hi : i < n) : lvP ad ls n (lst (lcl L i) i (some v)) := by
  refine lvP.of h (by rw [lst_length, lcl_length]; exact hn) (fun j u hu => ?_)
  by_cases e : j = i
  · subst e
    rw [lgt_lst_same _ _ _ (by rw [lcl_length, hn]; exact hi)] at hu
    cases hu
    exact List.mem_cons_self
  · rw [lgt_lst_ne _ _ _ _ e] at hu
    obtain ⟨h1, h2⟩ := lcl_some hu
    refine List.mem_cons_of_mem _ (List.mem_filter.mpr ⟨lta_mem.mpr ⟨u, h1, rfl⟩, ?_⟩)
    simp only [Bool.and_eq_true, Bool.not_eq_true', beq_eq_false_iff_ne, ne_eq]
    refine ⟨e, ?_⟩
    by_cases e2 : j + 1 = i
    · rw [cv_cat1 (h2 e2)]; simp
    · simp [e2]
theorem lvP.st2 {ad : Nat → Nat} {ls : Array Slot} {n i : Nat} {L : AL} {v : AV} (hn : L.length = n) (h : lv_has ls n ((i, cv ad v) :: (lta ad L).filter (fun q => !(q.1 == i) && (!(q.1 == i + 1) && !(q.1 + 1 == i && q.2.category == 2))))) (hi : i + 1 < n) : lvP ad ls n (lst (lst (lcl L i) i (some v)) (i + 1) none) := by
  refine lvP.of h (by rw [lst_length, lst_length, lcl_length]; exact hn) (fun j u hu => ?_)
  by_cases e1 : j = i + 1
  · subst e1
    rw [lgt_lst_same _ _ _ (by rw [lst_length, lcl_length, hn]; exact hi)] at hu
    cases hu
  rw [lgt_lst_ne _ _ _ _ e1] at hu
  by_cases e : j = i
  · subst e
    rw [lgt_lst_same _ _ _ (by rw [lcl_length, hn]; omega)] at hu
    cases hu
    exact List.mem_cons_self
  · rw [lgt_lst_ne _ _ _ _ e] at hu
    obtain ⟨h1, h2⟩ := lcl_some hu
    refine List.mem_cons_of_mem _ (List.mem_filter.mpr ⟨lta_mem.mpr ⟨u, h1, rfl⟩, ?_⟩)
    simp only [Bool.and_eq_true, Bool.not_eq_true', beq_eq_false_iff_ne, ne_eq]
    refine ⟨e, e1, ?_⟩
    by_cases e2 : j + 1 = i
    · rw [cv_cat1 (h2 e2)]; simp
    · simp [e2]
theorem okL.st {L : AL} {i : Nat} {v : AV} (h : okL L) (hv : okV v) : okL (lst (lcl L i) i (some v)) := by
  intro j u hu
  by_cases e : j = i
  · subst e
    have hl := lgt_lt hu
    rw [lst_length] at hl
    rw [lgt_lst_same _ _ _ hl] at hu
    cases hu
    exact hv
  · rw [lgt_lst_ne _ _ _ _ e] at hu
    exact h j u (lcl_some hu).1
theorem okL.st2 {L : AL} {i : Nat} (h : okL L) : okL (lst L i none) := by
  intro j u hu
  by_cases e : j = i
  · subst e
    have hl := lgt_lt hu
    rw [lst_length] at hl
    rw [lgt_lst_same _ _ _ hl] at hu
    cases hu
  · rw [lgt_lst_ne _ _ _ _ e] at hu
    exact h j u hu
/-! cells -/
theorem wsO_get {wd : WD} {aT : Nat → ClassId} {ad : Nat → Nat} {h : AH} {k : Nat} (hk : k < wd.1) : (wsO wd aT ad h)[k]? = some (ad k, cel wd aT ad h k) := by
  unfold wsO
  rw [List.getElem?_map, List.getElem?_range hk]
  rfl
theorem wsO_set {wd : WD} {aT : Nat → ClassId} {ad : Nat → Nat} {h h' : AH} {k : Nat} {c : va_E} (hc : cel wd aT ad h' k = c) (ho : ∀ j, j ≠ k → cel wd aT ad h' j = cel wd aT ad h j) : (wsO wd aT ad h).set k (ad k, c) = wsO wd aT ad h' := by
  apply List.ext_getElem?
  intro j
  unfold wsO
  rw [List.getElem?_set]
  by_cases e : k = j
  · subst e
    simp only [List.length_map, List.length_range, if_true]
    by_cases hk : k < wd.1
    · rw [if_pos hk, List.getElem?_map, List.getElem?_range hk, ← hc]; rfl
    · rw [if_neg hk, List.getElem?_map, List.getElem?_eq_none (by simpa using Nat.le_of_not_lt hk)]; rfl
  · rw [if_neg e]
    rw [List.getElem?_map, List.getElem?_map]
    by_cases hj : j < wd.1
    · rw [List.getElem?_range hj]
      simp only [Option.map_some]
      rw [ho j (Ne.symm e)]
    · rw [List.getElem?_eq_none (by simpa using Nat.le_of_not_lt hj)]; rfl
theorem cel_obj {wd : WD} {aT : Nat → ClassId} {ad : Nat → Nat} {h : AH} {k ci : Nat} (hb : isOb wd k ci = true) : k < wd.1 ∧ cel wd aT ad h k = .inr (ci, fvl wd ad h k ci) := by
  simp only [isOb, Bool.and_eq_true, beq_iff_eq, Nat.blt_eq] at hb
  refine ⟨hb.1, ?_⟩
  unfold cel
  rw [if_pos hb.2.1, hb.2.2]
theorem cel_arr {wd : WD} {aT : Nat → ClassId} {ad : Nat → Nat} {h : AH} {k ty : Nat} (hb : isAb wd k ty = true) : k < wd.1 ∧ (wd.2.1 k).2.1 = ty ∧ cel wd aT ad h k = .inl (aT ty, (wd.2.1 k).2.2, if ty = 1 then .inr (.inl fun i => Int64.ofInt (h.2 k i)) else .inl fun i => Int32.ofInt (h.2 k i)) := by
  simp only [isAb, Bool.and_eq_true, beq_iff_eq, Nat.blt_eq] at hb
  refine ⟨hb.1, hb.2.2, ?_⟩
  unfold cel
  rw [if_neg (by rw [hb.2.1]; decide), hb.2.2]
theorem ob_spec {b : Bool} {P : Prop} (h : ob b P) : b = true ∧ P := by
  cases b with
  | true => exact ⟨rfl, h⟩
  | false => exact absurd h id
theorem ob_in {b : Bool} {P : Prop} (hb : b = true) (h : P) : ob b P := by
  subst hb
  exact h
theorem zok_spec {z : Int} {P : Prop} (h : zok z P) : (z = 0 ∨ z = 1) ∧ P := by
  unfold zok at h
  split at h
  · exact ⟨Or.inl rfl, h⟩
  · exact ⟨Or.inr rfl, h⟩
  · exact absurd h id
theorem zok_in {z : Int} {P : Prop} (hz : z = 0 ∨ z = 1) (h : P) : zok z P := by
  rcases hz with rfl | rfl <;> exact h
