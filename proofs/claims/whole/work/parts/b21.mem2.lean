/-! ===== MEMORY: references, new rows, copies ===== -/
theorem putR_sh {h : pH} {a ci k n x q : Nat} {l : List (Option Nat)} (hs : sh h a = some (4 * ci, n, l)) (hk : l[k]? = some (some q)) (hx : x ≠ 4) : ∃ h', putR h a ci k x = some h' ∧ h'.length = h.length ∧ sh h' a = some (4 * ci, n, l.set k (some (x + 1))) ∧ (∀ b, b ≠ a → sh h' b = sh h b) ∧ (∀ b j, rd h' b j = rd h b j) ∧ ∀ b j, rdJ h' b j = rdJ h b j := by
  obtain ⟨e, hq0, he0⟩ := sh_some hs
  obtain ⟨fs, hq, hm⟩ := sh_obj hs
  have hlen : fs.length = n := by
    rw [hq] at hq0
    obtain rfl := Option.some.inj hq0
    exact congrArg (fun z => z.2.1) he0
  have hkl : k < fs.length := by
    have := (List.getElem?_eq_some_iff.mp hk).1
    rw [← hm, List.length_map] at this
    exact this
  have h6 := (pAt_some hq).1
  have hnk : ∀ y, fs[k]? ≠ some (.int y) := fun y hy => by
    rw [← hm, List.getElem?_map, hy] at hk
    cases Option.some.inj hk
  refine ⟨pPut h a (.inl (ci, fs.set k (.ref x))), ?_, put_len _ _ _, ?_, fun b hb => ?_, fun b j => ?_, fun b j => ?_⟩
  · unfold putR putV
    rw [if_neg hx, hq]
    dsimp only
    rw [if_pos ⟨rfl, hkl⟩]
  · unfold sh
    rw [pAt_put_eq hq]
    show some (4 * ci, (fs.set k (.ref x)).length, (fs.set k (.ref x)).map shv) = _
    rw [List.length_set, hlen, List.map_set, hm]
    rfl
  · unfold sh
    rw [pAt_put_ne h6 (fun z => hb z.symm)]
  · by_cases z : a = b
    · subst z
      unfold rd
      rw [pAt_put_eq hq, hq]
      dsimp only
      rw [List.getElem?_set]
      by_cases y : k = j
      · subst y
        rw [if_pos rfl, if_pos hkl]
        dsimp only
        split
        · rename_i y hy
          exact absurd hy (hnk y)
        · rfl
      · rw [if_neg y]
    · unfold rd
      rw [pAt_put_ne h6 z]
  · by_cases z : a = b
    · subst z
      unfold rdJ
      rw [pAt_put_eq hq, hq]
    · unfold rdJ
      rw [pAt_put_ne h6 z]
theorem pAt_apE (h : pH) (e : pE) (b : Nat) : pAt (h ++ [e]) b = if b = 6 + h.length then some e else pAt h b := by
  unfold pAt
  by_cases h6 : b < 6
  · rw [if_pos h6, if_pos h6, if_neg (by omega)]
  · rw [if_neg h6, if_neg h6]
    by_cases z : b = 6 + h.length
    · rw [if_pos z, z, show 6 + h.length - 6 = h.length by omega, List.getElem?_append_right (Nat.le_refl _), Nat.sub_self]
      rfl
    · rw [if_neg z]
      by_cases y : b - 6 < h.length
      · rw [List.getElem?_append_left y]
      · rw [List.getElem?_eq_none (by rw [List.length_append]; show h.length + 1 ≤ _; omega), List.getElem?_eq_none (by omega)]
theorem pAt_new (h : pH) : pAt h (6 + h.length) = none := by
  unfold pAt
  rw [if_neg (by omega), List.getElem?_eq_none (by omega)]
theorem newJ_ok {m : Nat} (hm : m ≤ 400000) (h : pH) : ∃ h', newJ (Int32.ofNat m) h = some (6 + h.length, h', m) ∧ h'.length = h.length + 1 ∧ (∀ b, b ≠ 6 + h.length → sh h' b = sh h b) ∧ sh h' (6 + h.length) = some (6, m, []) ∧ (∀ b k, rd h' b k = rd h b k) ∧ ∀ b k, rdJ h' b k = rdJ h b k := by
  refine ⟨h ++ [.inr (1, m, .inr (.inl (fun _ => 0)))], ?_, by rw [List.length_append]; rfl, fun b hb => ?_, ?_, fun b k => ?_, fun b k => ?_⟩
  · unfold newJ
    rw [i_cl (by omega), if_neg (by
      intro z
      rcases z with z | z
      · exact i_nneg (by omega) z
      · omega)]
  · unfold sh
    rw [pAt_apE, if_neg hb]
  · unfold sh
    rw [pAt_apE, if_pos rfl]
    rfl
  · unfold rd
    rw [pAt_apE]
    by_cases z : b = 6 + h.length
    · rw [if_pos z, z, pAt_new]
    · rw [if_neg z]
  · unfold rdJ
    rw [pAt_apE]
    by_cases z : b = 6 + h.length
    · rw [if_pos z, z, pAt_new]
    · rw [if_neg z]
theorem copyJ {h : pH} {a0 a n0 n1 sp dp n : Nat} (q0 : sh h a0 = some (6, n0, [])) (q1 : sh h a = some (6, n1, [])) (h0 : sp + n ≤ n0) (h1 : dp + n ≤ n1) (b0 : n0 < 2 ^ 31) (b1 : n1 < 2 ^ 31) : ∃ h', copyA h a0 (Int32.ofNat sp) a (Int32.ofNat dp) (Int32.ofNat n) = some h' ∧ (∀ b, sh h' b = sh h b) ∧ h'.length = h.length ∧ (∀ b k, rd h' b k = rd h b k) ∧ (∀ b k, b ≠ a → rdJ h' b k = rdJ h b k) ∧ ∀ k, rdJ h' a k = if dp ≤ k ∧ k < dp + n then rdJ h a0 (sp + (k - dp)) else rdJ h a k := by
  obtain ⟨e0, f0, f0'⟩ := sh_some q0
  obtain ⟨f, hf⟩ := sh_longs (t := 1) q0
  obtain ⟨g, hg⟩ := sh_longs (t := 1) q1
  have h6 := (pAt_some hg).1
  refine ⟨pPut h a (.inr (1, n1, .inr (.inl (va_cpy f g sp dp n)))), ?_, fun b => sh_put (e := .inr (1, n1, .inr (.inl (va_cpy f g sp dp n)))) hg rfl b, put_len _ _ _, fun b k => ?_, fun b k hb => ?_, fun k => ?_⟩
  · unfold copyA pCopy
    dsimp only
    rw [hf, hg, if_neg (by
      intro z
      rcases z with z | z | z | z
      · exact i_nneg (by omega) z
      · exact i_nneg (by omega) z
      · exact i_nneg (by omega) z
      · exact absurd z (by decide)), i_cl (by omega), i_cl (by omega), i_cl (by omega)]
    show Option.map (fun q => q.2) (if sp + n ≤ n0 ∧ dp + n ≤ n1 then some (([] : List Value), pPut h a (.inr (1, n1, .inr (.inl (va_cpy f g sp dp n))))) else none) = _
    rw [if_pos ⟨h0, h1⟩]
    rfl
  · by_cases z : a = b
    · subst z
      unfold rd
      rw [pAt_put_eq hg, hg]
    · unfold rd
      rw [pAt_put_ne h6 z]
  · unfold rdJ
    rw [pAt_put_ne h6 (fun z => hb z.symm)]
  · have e1 : rdJ (pPut h a (.inr (1, n1, .inr (.inl (va_cpy f g sp dp n))))) a k = va_cpy f g sp dp n k := by
      unfold rdJ
      rw [pAt_put_eq hg]
    have e2 : ∀ j, rdJ h a0 j = f j := fun j => by unfold rdJ; rw [hf]
    have e3 : rdJ h a k = g k := by unfold rdJ; rw [hg]
    rw [e1, e2, e3]
    rfl
theorem Sg.len {h : pH} (hs : Sg h) : 199 ≤ h.length := by
  have := sh_137 hs
  have h204 : sh h 204 = sh h0 204 := hs.1 204 (by omega) (by omega) (by omega) (by omega)
  have e : ∃ z, sh h0 204 = some z := by
    cases hq : sh h0 204 with
    | none => exact absurd hq (by decide +kernel)
    | some z => exact ⟨z, rfl⟩
  obtain ⟨z, hz⟩ := e
  rw [hz] at h204
  obtain ⟨e, h1, _⟩ := sh_some h204
  have h2 := (pAt_some h1).2
  have := (List.getElem?_eq_some_iff.mp h2).1
  omega
theorem Sg.pl {h : pH} (hs : Sg h) : pileR h < 6 + h.length := by
  obtain ⟨e, h1, _⟩ := sh_some hs.pile.2.1
  have h2 := pAt_some h1
  have := (List.getElem?_eq_some_iff.mp h2.2).1
  omega
def pot (n : Nat) : Nat := if n = 400000 then 1200000 else 2 * n
/-- the pile has room: what else changed -/
def Gro (h h' : pH) (nc ns : Nat) : Prop := Sg h' ∧ (∀ a k, rd h' a k = rd h a k) ∧ (∀ a k, a < 205 → a ≠ 132 → rdJ h' a k = rdJ h a k) ∧ pileN h ≤ pileN h' ∧ (∀ k, k < pileN h → rdJ h' (pileR h') k = rdJ h (pileR h) k) ∧ cR h' = cR h ∧ oR h' = oR h ∧ 100 * nc ≤ ns ∧ ns + pot (pileN h) ≤ pot (pileN h')
theorem Gro.refl {h : pH} (hs : Sg h) : Gro h h 0 0 := ⟨hs, fun _ _ => rfl, fun _ _ _ _ => rfl, Nat.le_refl _, fun _ _ => rfl, rfl, rfl, Nat.le_refl _, by omega⟩
theorem e5_grow {h : pH} {n N : Nat} (hs : Sg h) (hn : n ≤ 400000) : ∃ h' nc ns, fX5_growPile N 128 (Int32.ofNat n) h = some (h', nc, ns) ∧ Gro h h' nc ns ∧ n ≤ pileN h' := by
  have hp := hs.pile
  have hpl := hs.pl
  have hl := hs.len
  by_cases h1 : n ≤ pileN h
  · refine ⟨h, 0, 0, ?_, Gro.refl hs, h1⟩
    unfold fX5_growPile
    rw [if_pos (o_128 hs), R_128_5 hs, Option.bind_some, n_p hs, Option.bind_some, if_pos (by rw [iLe (by omega) (by omega)]; exact h1)]
  · have hmul : Int32.ofNat (pileN h) * 2 = Int32.ofNat (pileN h * 2) := by rw [Int32.ofNat_mul]; rfl
    have key : ∀ m, pileN h < m → m ≤ 400000 → n ≤ m → pot (pileN h) + m ≤ pot m → (if (400000 : Int32) < (if Int32.ofNat n < Int32.ofNat (pileN h) * 2 then Int32.ofNat (pileN h) * 2 else Int32.ofNat n) then (400000 : Int32) else (if Int32.ofNat n < Int32.ofNat (pileN h) * 2 then Int32.ofNat (pileN h) * 2 else Int32.ofNat n)) = Int32.ofNat m → ∃ h' nc ns, fX5_growPile N 128 (Int32.ofNat n) h = some (h', nc, ns) ∧ Gro h h' nc ns ∧ n ≤ pileN h' := by
      intro m m1 m2 m3 m4 m5
      obtain ⟨h2, e1, e2, e3, e4, e5, e6⟩ := newJ_ok m2 h
      have s0 : sh h2 (pileR h) = some (6, pileN h, []) := (e3 _ (by omega)).trans hp.2.1
      obtain ⟨h3, f1, f2, f3, f4, f5, f6⟩ := copyJ (h := h2) (sp := 0) (dp := 0) (n := pileN h) s0 e4 (by omega) (by omega) (by omega) (by omega)
      have s1 : sh h3 128 = some (4 * 5, 20, mF (pileR h)) := (f2 _).trans ((e3 _ (by omega)).trans hp.1)
      obtain ⟨h4, g1, g2, g3, g4, g5, g6⟩ := putR_sh (x := 6 + h.length) s1 (k := 5) rfl (by omega)
      have hsh : ∀ b, b ≠ 128 → b ≠ 6 + h.length → sh h4 b = sh h b := fun b b1 b2 => (g4 b b1).trans ((f2 b).trans (e3 b b2))
      have hshn : sh h4 (6 + h.length) = some (6, m, []) := (g4 _ (by omega)).trans ((f2 _).trans e4)
      have hsh8 : sh h4 128 = some (20, 20, mF (6 + h.length)) := g3
      have hS : Sg h4 := by
        refine ⟨fun a a1 a2 a3 a4 => (hsh a a3 (by omega)).trans (hs.1 a a1 a2 a3 a4), ⟨6 + h.length, m, hsh8, hshn, Or.inr (by omega), by omega, m2⟩, ?_⟩
        obtain ⟨b, hb⟩ := hs.2.2
        exact ⟨b, (hsh 129 (by omega) (by omega)).trans hb⟩
      have hpR : pileR h4 = 6 + h.length := by unfold pileR; rw [hsh8]; rfl
      have hpN : pileN h4 = m := by unfold pileN; rw [hpR, hshn]
      refine ⟨h4, 1, m, ?_, ⟨hS, fun a k => (g5 a k).trans ((f4 a k).trans (e5 a k)), fun a k a1 a2 => ?_, by omega, fun k hk => ?_, ?_, ?_, by omega, by rw [hpN]; omega⟩, by omega⟩
      · unfold fX5_growPile
        rw [if_pos (o_128 hs), R_128_5 hs, Option.bind_some, n_p hs, Option.bind_some, if_neg (by rw [iLe (by omega) (by omega)]; exact h1), show (400000 : Int32) = Int32.ofNat 400000 from rfl, if_neg (by rw [iLt (by omega) (by omega)]; omega), Option.bind_some, Option.bind_some, (n_p hs), Option.bind_some, ← show (400000 : Int32) = Int32.ofNat 400000 from rfl, m5]
        unfold fJ7_copyOf_c38d5
        have s0' : lenA h2 (pileR h) = some (Int32.ofNat (pileN h)) := lenA_sh s0 (by decide) (by omega)
        rw [if_neg (by omega), n_p hs, Option.bind_some, if_neg (i_ne (by omega) (by omega) (by omega)), e1, Option.bind_some]
        dsimp only
        rw [if_neg (by omega), s0', Option.bind_some, if_neg (by rw [iLt (by omega) (by omega)]; omega)]
        rw [show copyA h2 (pileR h) 0 (6 + h.length) 0 (Int32.ofNat (pileN h)) = some h3 from f1, Option.bind_some, if_neg (by omega), Option.bind_some]
        dsimp only
        rw [g1, Option.bind_some, Nat.zero_add, Nat.zero_add, Nat.zero_add, Nat.zero_add]
      · rw [g6, f5 _ _ (by omega), e6]
      · rw [hpR, g6, f6, if_pos ⟨Nat.zero_le _, by omega⟩, e6, Nat.zero_add, Nat.sub_zero]
      · unfold cR; rw [hsh 129 (by omega) (by omega)]
      · unfold oR; rw [hsh 129 (by omega) (by omega)]
    have hpot : ∀ m, pileN h * 2 ≤ m → m < 400000 → pot (pileN h) + m ≤ pot m := fun m h1 h2 => by
      unfold pot
      rw [if_neg (by omega), if_neg (by omega)]
      omega
    have hpot4 : pot (pileN h) + 400000 ≤ pot 400000 := by
      unfold pot
      rw [if_neg (by omega), if_pos rfl]
      omega
    rcases Nat.lt_or_ge n (pileN h * 2) with z | z
    · have e1 : (if Int32.ofNat n < Int32.ofNat (pileN h) * 2 then Int32.ofNat (pileN h) * 2 else Int32.ofNat n) = Int32.ofNat (pileN h * 2) := by
        rw [hmul, if_pos (by rw [iLt (by omega) (by omega)]; exact z)]
      rcases Nat.lt_or_ge 400000 (pileN h * 2) with y | y
      · exact key 400000 (by omega) (by omega) hn hpot4 (by rw [e1, show (400000 : Int32) = Int32.ofNat 400000 from rfl, if_pos (by rw [iLt (by omega) (by omega)]; exact y)])
      · refine key (pileN h * 2) (by omega) (by omega) (by omega) ?_ (by rw [e1, show (400000 : Int32) = Int32.ofNat 400000 from rfl, if_neg (by rw [iLt (by omega) (by omega)]; omega)])
        rcases Nat.lt_or_ge (pileN h * 2) 400000 with x | x
        · exact hpot _ (Nat.le_refl _) x
        · rw [show pileN h * 2 = 400000 by omega]; exact hpot4
    · have e1 : (if Int32.ofNat n < Int32.ofNat (pileN h) * 2 then Int32.ofNat (pileN h) * 2 else Int32.ofNat n) = Int32.ofNat n := by
        rw [hmul, if_neg (by rw [iLt (by omega) (by omega)]; omega)]
      refine key n (by omega) hn (Nat.le_refl _) ?_ (by rw [e1, show (400000 : Int32) = Int32.ofNat 400000 from rfl, if_neg (by rw [iLt (by omega) (by omega)]; omega)])
      rcases Nat.lt_or_ge n 400000 with x | x
      · exact hpot _ z x
      · rw [show n = 400000 by omega]; exact hpot4
/-- the rows change places -/
theorem e3_begin {h : pH} {N : Nat} (hs : Sg h) : ∃ h', fX3_beginMoving N 129 h = some h' ∧ Sg h' ∧ cR h' = oR h ∧ oR h' = cR h ∧ pileR h' = pileR h ∧ pileN h' = pileN h ∧ rd h' 129 2 = 6 ∧ (∀ a k, ¬ (a = 129 ∧ k = 2) → rd h' a k = rd h a k) ∧ (∀ a k, rdJ h' a k = rdJ h a k) := by
  have hr := hs.rows
  obtain ⟨h1, a1, a2, a3, a4, a5, a6⟩ := putR_sh (x := oR h) hr.2 (k := 0) rfl (by have := hr.1; omega)
  obtain ⟨h2, b1, b2, b3, b4, b5, b6⟩ := putR_sh (x := cR h) a3 (k := 1) rfl (by have := hr.1; omega)
  have b3 : sh h2 129 = some (4 * 3, 4, [some (oR h + 1), some (cR h + 1), none, none]) := b3
  have hsh : ∀ b, b ≠ 129 → sh h2 b = sh h b := fun b hb => (b4 b hb).trans (a4 b hb)
  have hS : Sg h2 := by
    refine ⟨fun a a1 a2 a3 a4 => (hsh a a4).trans (hs.1 a a1 a2 a3 a4), ?_, ?_⟩
    · obtain ⟨r, n, r1, r2, r3, r4⟩ := hs.2.1
      exact ⟨r, n, (hsh 128 (by omega)).trans r1, (hsh r (by omega)).trans r2, r3, r4⟩
    · rcases hr.1 with ⟨e1, e2⟩ | ⟨e1, e2⟩
      · exact ⟨false, by rw [b3, e1, e2]; rfl⟩
      · exact ⟨true, by rw [b3, e1, e2]; rfl⟩
  have ec : cR h2 = oR h := by unfold cR; rw [b3]; rfl
  have eo : oR h2 = cR h := by rw [show oR h2 = cR h + 1 - 1 by unfold oR; rw [b3]]; omega
  have ep : pileR h2 = pileR h := by unfold pileR; rw [hsh 128 (by omega)]
  have eN : pileN h2 = pileN h := by unfold pileN; rw [ep, hsh _ (by have := hs.pile.2.2.1; omega)]
  have o1 : isO h 129 3 = true := o_129 hs
  refine ⟨wr h2 129 2 6, ?_, hS.wr _ _ _, ?_, ?_, ?_, ?_, w_129_2 hS _, fun a k n => ?_, fun a k => ?_⟩
  · unfold fX3_beginMoving
    rw [if_pos o1, R_129_0 hs, Option.bind_some, if_neg (by have := hr.1; omega), R_129_1 hs, Option.bind_some, a1, Option.bind_some, b1, Option.bind_some, p_129_2 hS, Option.bind_some]
  · rw [cR_of (fun b => sh_wr _ _ _ _ b)]; exact ec
  · rw [oR_of (fun b => sh_wr _ _ _ _ b)]; exact eo
  · rw [pileR_wr]; exact ep
  · rw [pileN_wr]; exact eN
  · rw [rd_wr_ne _ _ (fun z => n ⟨z.1.symm, z.2.symm⟩), b5, a5]
  · rw [rdJ_wr, b6, a6]
