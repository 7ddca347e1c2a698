/-! ===== THE CLASS' TYPER: one piece of an expression ===== -/
theorem TyN.wrap {P : Pgm} {σ : List Nat} {X i : Nat} {k a : Int32} {o : Option (List Nat)} {x : Option (Int32 × pH)} {h : pH} (q : TyN P σ X i k a o x h) : TyN P σ X i k a o (x.bind fun q => if pRet .boolean q.1 = true then some (q.1, q.2) else none) h := by
  cases o with
  | none =>
    obtain ⟨h', e, g⟩ := q
    exact ⟨h', by rw [e, Option.bind_some]; exact if_pos (pRet_01 (Or.inl rfl)), g⟩
  | some l =>
    obtain ⟨h', X', e, r⟩ := q
    exact ⟨h', X', by rw [e, Option.bind_some]; exact if_pos (pRet_01 (Or.inr rfl)), r⟩
theorem TyR.toN {P : Pgm} {σ : List Nat} {X i : Nat} {o : Option (List Nat)} {x : Option (Int32 × pH)} {h : pH} (q : TyR P σ X pyA o x h) : TyN P σ X i (rd h 39 i) (rd h 40 i) o x h := by
  cases o with
  | none =>
    obtain ⟨h', e, g⟩ := q
    exact ⟨h', e, g.mono (fun a k z => Or.inl z)⟩
  | some l =>
    obtain ⟨h', X', e1, e2, e3, e4⟩ := q
    exact ⟨h', X', e1, e2, e3, e4.2.2.1 _ _ (by unfold pyA; omega), e4.2.2.1 _ _ (by unfold pyA; omega), e4.mono (fun a k z => Or.inl z)⟩
/-- the kind and the first number of a piece, typed -/
def Pgm.pcK (P : Pgm) (c : Nat) (E : EnvV) (k w : Nat) (l : List Nat) (a : Int32) : Int32 × Int32 := if k = 6 then P.nmK c E (P.1 w) else if k = 9 then P.dotK (P.1 w) (lget l 0) else if k = 13 ∨ k = 15 ∨ k = 16 then (Int32.ofNat k, oI (-6) (P.fnd (P.1 w))) else (Int32.ofNat k, a)
/-- how many types a piece takes -/
def arK (k v : Nat) : Nat := if k = 30 then v + 1 else if k = 12 ∨ (19 ≤ k ∧ k ≤ 27) then 2 else if k = 9 ∨ (14 ≤ k ∧ k ≤ 18) then 1 else 0
theorem CSt.pushC {P : Pgm} {σ : List Nat} {X N t i : Nat} {h : pH} (hn : P.n ≤ 400) (hs : Sg h) (q : CSt P σ X h) (ht : P.tOk t) (h5 : t ≠ 5) (hl : σ.length ≤ 3000) : TyN P σ X i (rd h 39 i) (rd h 40 i) (some [t]) ((fX9_push N 51 (ctI t) h).bind fun q8 => if pRet .boolean q8.1 = true then some (q8.1, q8.2) else none) h := by
  have := CSt.pushN (N := N) (i := i) (h0 := h) hn hs q ht hl (Chg.refl _ _) rfl rfl wrap_push
  rw [show tS t = some [t] from if_neg h5] at this
  exact this
theorem CK.piece {P : Pgm} {D : List Int32 → Prop} {num : List Int32 → Nat} {σ : List Nat} {E : EnvV} {M X N i c k v w : Nat} {l : List Nat} {h : pH} (hN : 1100 ≤ N) (q : CK P D num h) (h5 : P.P5) (qe : CSc P D num E M h) (qs : CSt P (σ ++ l) X h) (hsl : σ.length ≤ 3000) (h7 : rd h 51 7 = Int32.ofNat c) (hc : c < P.n) (hi : i < 3100) (hk : (1 ≤ k ∧ k ≤ 6) ∨ k = 9 ∨ (12 ≤ k ∧ k ≤ 27) ∨ k = 30 ∨ k = 50) (hl : l.length = arK k v) (hv : k = 30 → v ≤ 4000) (h39 : rd h 39 i = Int32.ofNat k) (hw : k = 6 ∨ k = 9 ∨ k = 13 ∨ k = 15 ∨ k = 16 ∨ k = 30 → D (P.1 w) ∧ rd h 40 i = Int32.ofNat (num (P.1 w))) (h41 : k = 30 → rd h 41 i = Int32.ofNat v) : TyN P σ X i (P.pcK c E k w l (rd h 40 i)).1 (P.pcK c E k w l (rd h 40 i)).2 (P.opT c E k w l) (fX9_isFine N 51 (Int32.ofNat i) (Int32.ofNat k) h) h := by
  have hn : P.n ≤ 400 := by have := q.1.2.2.2.2.2.1; omega
  have hs := q.1.1
  unfold fX9_isFine
  rw [if_pos (o_51 hs), show (8 : Int32) = Int32.ofNat 8 from rfl, show (16 : Int32) = Int32.ofNat 16 from rfl, show (29 : Int32) = Int32.ofNat 29 from rfl, show (37 : Int32) = Int32.ofNat 37 from rfl, show (43 : Int32) = Int32.ofNat 43 from rfl, ifLt (by omega) (by omega), ifLt (by omega) (by omega), ifLt (by omega) (by omega), ifLt (by omega) (by omega), ifLt (by omega) (by omega)]
  rcases hk with hk | rfl | hk | rfl | rfl
  · rw [if_neg (by omega)]
    refine TyN.wrap ?_
    have hl0 : l = [] := by
      have : arK k v = 0 := by unfold arK; rw [if_neg (by omega), if_neg (by omega), if_neg (by omega)]
      exact List.length_eq_zero_iff.mp (by omega)
    subst hl0
    rw [List.append_nil] at qs
    unfold fX9_isValueFine
    rw [if_pos (o_51 hs)]
    obtain rfl | rfl | rfl | rfl | rfl | rfl : k = 1 ∨ k = 2 ∨ k = 3 ∨ k = 4 ∨ k = 5 ∨ k = 6 := by omega
    · have := CSt.pushC (N := N) (i := i) (t := 0) hn hs qs (Or.inl (by omega)) (by omega) hsl
      rw [h39] at this
      exact this
    · have := CSt.pushC (N := N) (i := i) (t := 1) hn hs qs (Or.inl (by omega)) (by omega) hsl
      rw [h39] at this
      exact this
    · have := CSt.pushC (N := N) (i := i) (t := 4) hn hs qs (Or.inl (by omega)) (by omega) hsl
      rw [h39] at this
      exact this
    · have := CSt.pushC (N := N) (i := i) (t := 10 + c) hn hs qs (Or.inr ⟨by omega, by omega⟩) (by omega) hsl
      rw [h39, ctI_cls (by omega), show 10 + c - 10 = c by omega, ← h7] at this
      show TyN P σ X i (Int32.ofNat 4) (rd h 40 i) (some [10 + c]) ((getI h 51 9 7).bind fun t12 => (fX9_push N 51 t12 h).bind fun q13 => if pRet .boolean q13.1 = true then some (q13.1, q13.2) else none) h
      rw [g_51_7 hs, Option.bind_some]
      exact this
    · have := CSt.pushC (N := N) (i := i) (t := 0) hn hs qs (Or.inl (by omega)) (by omega) hsl
      rw [h39] at this
      exact this
    · obtain ⟨w1, w2⟩ := hw (Or.inl rfl)
      exact (CK.nameFine (N := N) hN q qe qs hsl h7 hc w1 hi w2).wrap
  · rw [if_pos (by omega), if_neg (by omega)]
    refine TyN.wrap ?_
    obtain ⟨t, rfl⟩ : ∃ t, l = [t] := List.length_eq_one_iff.mp hl
    obtain ⟨w1, w2⟩ := hw (Or.inr (Or.inl rfl))
    unfold fX9_isPartFine
    rw [if_pos (o_51 hs)]
    exact (CK.dotFine (N := N) hN q qs w1 hi w2).wrap
  · rw [if_pos (by omega)]
    by_cases z : k ≤ 16
    · rw [if_neg (by omega)]
      refine TyN.wrap ?_
      have hlp : l.length = if k = 13 then 0 else if k = 12 then 2 else 1 := by
        rw [hl]
        unfold arK
        rw [if_neg (by omega)]
        by_cases a : k = 13
        · rw [if_pos a, if_neg (by omega), if_neg (by omega)]
        · rw [if_neg a]
          by_cases b : k = 12
          · rw [if_pos b, if_pos (Or.inl b)]
          · rw [if_neg b, if_neg (by omega), if_pos (by omega)]
      have := CK.part (N := N) (E := E) (c := c) hN q ⟨hk.1, z⟩ hlp qs hsl hi h39 (fun y => hw (by omega))
      have hK : P.pcK c E k w l (rd h 40 i) = (Int32.ofNat k, if k = 13 ∨ k = 15 ∨ k = 16 then oI (-6) (P.fnd (P.1 w)) else rd h 40 i) := by
        unfold Pgm.pcK
        rw [if_neg (by omega), if_neg (by omega)]
        split <;> rfl
      rw [hK]
      exact this
    · rw [if_pos (by omega), if_neg (by omega)]
      refine TyN.wrap ?_
      have hls : l.length = if k ≤ 18 then 1 else 2 := by
        rw [hl]
        unfold arK
        rw [if_neg (by omega)]
        by_cases a : k ≤ 18
        · rw [if_pos a, if_neg (by omega), if_pos (by omega)]
        · rw [if_neg a, if_pos (by omega)]
      have := (CT.sign (N := N) (E := E) (c := c) (w := w) hN q.1 q.2.1 ⟨by omega, hk.2⟩ hls qs).toN (i := i)
      have hK : P.pcK c E k w l (rd h 40 i) = (Int32.ofNat k, rd h 40 i) := by
        unfold Pgm.pcK
        rw [if_neg (by omega), if_neg (by omega), if_neg (by omega)]
      rw [h39] at this
      rw [hK]
      exact this
  · rw [if_pos (by omega), if_pos (by omega), if_pos (by omega), if_neg (by omega)]
    refine TyN.wrap ?_
    obtain ⟨w1, w2⟩ := hw (by omega)
    rcases l with _ | ⟨r, l⟩
    · exact absurd hl (show ¬ 0 = v + 1 by omega)
    · have hlv : l.length = v := by
        have : l.length + 1 = v + 1 := hl
        omega
      have hv' := hv rfl
      have := CK.callFine (N := N) hN q h5 qs (by omega) w1 hi h39 w2 (by rw [hlv]; exact h41 rfl)
      unfold fX9_isGiftFine
      rw [if_pos (o_51 hs), if_pos (show Int32.ofNat 30 = 30 from rfl)]
      have hK : P.pcK c E 30 w (r :: l) (rd h 40 i) = (30, Int32.ofNat (num (P.1 w))) := by rw [w2]; rfl
      rw [hK]
      exact this.wrap
  · rw [if_pos (by omega), if_pos (by omega), if_pos (by omega), if_pos (by omega), if_pos (by omega)]
    refine TyN.wrap ?_
    have hl0 : l = [] := List.length_eq_zero_iff.mp hl
    subst hl0
    rw [List.append_nil] at qs
    unfold fX9_isSilentFine
    rw [if_pos (o_51 hs), if_pos (show Int32.ofNat 50 = 50 from rfl), g_51_7 hs, Option.bind_some]
    have := CSt.pushC (N := N) (i := i) (t := 10 + c) hn hs qs (Or.inr ⟨by omega, by omega⟩) (by omega) hsl
    rw [h39, ctI_cls (by omega), show 10 + c - 10 = c by omega, ← h7] at this
    exact this
