/-! the text; where a WORD ends -/
/-- the character at a place, 0 outside -/
def chr (n : Int) (f : Nat → Int) (k : Int) : Int := if 0 ≤ k ∧ k < n then f k.toNat else 0
/-- the class's text -/
abbrev cT (h : AH) : Int → Int := chr (gS h 3 1) (h.2 4)
/-- the reference's text -/
abbrev mT (h : AH) : Int → Int := chr (gS h 0 4) (h.2 2)
theorem chr_out {n : Int} {f : Nat → Int} {k : Int} (h : ¬ (0 ≤ k ∧ k < n)) : chr n f k = 0 := if_neg h
theorem alen4 : alen wdC (3 + 1) = 1024 := rfl
theorem cT_get {h : AH} {x : Int} (hn : gS h 3 1 ≤ 1024) : rgt h 3 x = cT h x := by
  unfold rgt cT chr
  rw [alen4]
  by_cases c : 0 ≤ x ∧ x < gS h 3 1
  · rw [if_pos c, if_pos (by omega)]
  · rw [if_neg c, if_neg (by omega)]
/-- c is not a part of a word; e is the first such place from p on -/
def WE (c : Int → Int) (p e : Int) : Prop := p ≤ e ∧ (∀ q, p ≤ q → q < e → isW (c q)) ∧ ¬ isW (c e)
theorem WE.uniq {c : Int → Int} {p e e' : Int} (h : WE c p e) (h' : WE c p e') : e = e' := by
  rcases Int.lt_trichotomy e e' with q | q | q
  · exact absurd (h'.2.1 e h.1 q) h.2.2
  · exact q
  · exact absurd (h.2.1 e' h'.1 q) h'.2.2
theorem WE.here {c : Int → Int} {p : Int} (h : ¬ isW (c p)) : WE c p p := ⟨Int.le_refl p, fun q a b => absurd a (by omega), h⟩
theorem WE.step {c : Int → Int} {p e : Int} (hp : isW (c p)) (h : WE c (p + 1) e) : WE c p e := ⟨by have := h.1; omega, fun q a b => by
  by_cases e1 : q = p
  · rw [e1]; exact hp
  · exact h.2.1 q (by omega) b, h.2.2⟩
theorem notW0 : ¬ isW 0 := by decide
theorem rowText : isOb wdC 3 2 = true := rfl
/-- the end of a WORD at p: p itself where none begins -/
def WQ (c : Int → Int) (p e : Int) : Prop := if isL (c p) ∨ c p = 95 then WE c p e else e = p
section WEND
variable {d : Nat} {h : AH} {R : AR}
theorem lC_wordEnd (hn : gS h 3 1 ≤ 1024) : ∀ (m : Nat) (x : Int), (1024 - x).toNat ≤ m → 0 ≤ x → (∀ e, WE (cT h) x e → R (some (vI e)) h) → At wdC (d + 1) mX7_wordEnd 23 [some (vR 3), none, some (vI x)] [] h R := by
  intro m
  induction m with
  | zero =>
    intro x hm h0 k
    refine sX7_wordEnd_23 (c_size rowText ⟨fun c => ?_, fun c => absurd c (by omega)⟩)
    exact k x (WE.here (by rw [cT, chr_out (by omega)]; exact notW0))
  | succ m ih =>
    intro x hm h0 k
    refine sX7_wordEnd_23 (c_size rowText ⟨fun c => ?_, fun c => c_get rowText ?_⟩)
    · exact k x (WE.here (by rw [cT, chr_out (by omega)]; exact notW0))
    · rw [cT_get hn]
      refine cC_isWordPart ⟨fun c2 => k x (WE.here (bi_eq.mp c2)), fun c2 => ⟨by omega, ih (x + 1) (by omega) (by omega) (fun e he => k e (WE.step (bi_ne.mp c2) he))⟩⟩
theorem cC_wordEnd {x : Int} (hn : gS h 3 1 ≤ 1024) (h0 : 0 ≤ x) (k : ∀ e, WQ (cT h) x e → R (some (vI e)) h) : Call wdC (d + 1) mX7_wordEnd [vR 3, vI x] h R := by
  refine Call.of (by decide) (Nat.le_of_ble_eq_true rfl) (sX7_wordEnd (c_get rowText ?_))
  rw [cT_get hn]
  refine cC_isLetter ⟨fun c => ?_, fun c => c_get rowText ?_⟩
  · have c := bi_ne.mp c
    exact lC_wordEnd hn _ x (Nat.le_refl _) h0 (fun e he => k e (by rw [WQ, if_pos (Or.inl c)]; exact he))
  · rw [cT_get hn]
    have c : ¬ isL (cT h x) := fun q => c (bi_ne.mpr q)
    refine ⟨fun c2 => k x (by rw [WQ, if_neg (fun q => q.elim c c2)]), fun c2 => ?_⟩
    exact lC_wordEnd hn _ x (Nat.le_refl _) h0 (fun e he => k e (by rw [WQ, if_pos (Or.inr (by omega))]; exact he))
theorem cM_look {x : Int} (hn : gS h 0 4 ≤ 1024) (h0 : 0 ≤ x) (k : R (some (vI (mT h x))) h) : Call wdM d mX8_look [vR 0, vI x] h R := by
  refine Call.of (by decide) (Nat.le_of_ble_eq_true rfl) (sX8_look ?_)
  refine ⟨fun c => ?_, fun c => ⟨by omega, ?_⟩⟩
  · rwa [mT, chr_out (by omega)] at k
  · rwa [mT, chr, if_pos (by omega)] at k
theorem lM_wordEnd (hn : gS h 0 4 ≤ 1024) : ∀ (m : Nat) (x : Int), (1024 - x).toNat ≤ m → 0 ≤ x → x ≤ 1024 → (∀ e, WE (mT h) x e → R (some (vI e)) h) → At wdM (d + 3) mX8_wordEnd 25 [some (vR 0), none, some (vI x)] [] h R := by
  intro m
  induction m with
  | zero =>
    intro x hm h0 h1 k
    refine sX8_wordEnd_25 (cM_look hn h0 (cM_isWordPart ⟨fun c => k x (WE.here (bi_eq.mp c)), fun c => ?_⟩))
    exact absurd (bi_ne.mp c) (by rw [mT, chr_out (by omega)]; exact notW0)
  | succ m ih =>
    intro x hm h0 h1 k
    refine sX8_wordEnd_25 (cM_look hn h0 (cM_isWordPart ⟨fun c => k x (WE.here (bi_eq.mp c)), fun c => ⟨by omega, ?_⟩⟩))
    have c := bi_ne.mp c
    have hlt : x < 1024 := by
      by_cases q : x < 1024
      · exact q
      · exact absurd c (by rw [mT, chr_out (by omega)]; exact notW0)
    exact ih (x + 1) (by omega) (by omega) (by omega) (fun e he => k e (WE.step c he))
theorem cM_wordEnd {x : Int} (hn : gS h 0 4 ≤ 1024) (h0 : 0 ≤ x) (h1 : x ≤ 1024) (k : ∀ e, WQ (mT h) x e → R (some (vI e)) h) : Call wdM (d + 3) mX8_wordEnd [vR 0, vI x] h R := by
  refine Call.of (by decide) (Nat.le_of_ble_eq_true rfl) (sX8_wordEnd (cM_look hn h0 (cM_isLetter ⟨fun c => ?_, fun c => cM_look hn h0 ⟨fun c2 => ?_, fun c2 => ?_⟩⟩)))
  · have c := bi_ne.mp c
    exact lM_wordEnd hn _ x (Nat.le_refl _) h0 h1 (fun e he => k e (by rw [WQ, if_pos (Or.inl c)]; exact he))
  · exact lM_wordEnd hn _ x (Nat.le_refl _) h0 h1 (fun e he => k e (by rw [WQ, if_pos (Or.inr c2)]; exact he))
  · have c : ¬ isL (mT h x) := fun q => c (bi_ne.mpr q)
    exact k x (by rw [WQ, if_neg (fun q => q.elim c c2)])
end WEND
