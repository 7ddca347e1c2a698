/-! ===== THE REFERENCE'S TYPER: the nodes of a statement ===== -/
theorem lpv2 {N s to : Nat} {h : pH} (hs : Sg h) (hsl : s < 1600) (ht : to < 3200) : ∀ (d i k : Nat), i + d = to + 1 → d + 1 < k → fX12_checkNodes_35 N k 138 (Int32.ofNat s) (Int32.ofNat to) 1 (Int32.ofNat i) h = some (kI (fstN (fun m => decide (rd h 148 m = 3 ∧ ¬ (rd h 151 s = 7 ∧ Int32.ofNat m = rd h 154 s))) d i).isNone, h)
  | 0, i, k + 1, hd, hk => by
    rw [fX12_checkNodes_35, ifLt (by omega) (by omega), if_pos (by omega), if_pos (pRet_01 (Or.inr rfl))]
    rfl
  | d + 1, i, k + 1, hd, hk => by
    have IH := lpv2 (N := N) hs hsl ht d (i + 1) k (by omega) (by omega)
    have bad : fX12_checkNodes_83 N (fX12_checkNodes_35 N k) 138 (Int32.ofNat s) (Int32.ofNat to) (Int32.ofNat i) h = some (0, h) := by
      unfold fX12_checkNodes_83 fX12_checkNodes_84
      obtain ⟨k, rfl⟩ : ∃ k', k = k' + 1 := ⟨k - 1, by omega⟩
      rw [fX12_checkNodes_35, if_pos (pRet_01 (Or.inl rfl)), if_pos rfl, ite_self]
    have good : fX12_checkNodes_79 N (fX12_checkNodes_35 N k) 138 (Int32.ofNat s) (Int32.ofNat to) (Int32.ofNat i) h = fX12_checkNodes_35 N k 138 (Int32.ofNat s) (Int32.ofNat to) 1 (Int32.ofNat (i + 1)) h := by
      unfold fX12_checkNodes_79 fX12_checkNodes_84
      rw [i_add1]
    rw [fX12_checkNodes_35, ifLt (by omega) (by omega), if_neg (by omega), if_neg (show ¬ (1 : Int32) = 0 by decide), R_138_20 hs, Option.bind_some, L_148 hs (by omega), Option.bind_some, R_138_26 hs, Option.bind_some, L_151 hs hsl, Option.bind_some, R_138_29 hs, Option.bind_some, L_154 hs hsl, Option.bind_some, good, bad, fstN_succ]
    by_cases z3 : rd h 148 i = 3
    · rw [if_pos z3]
      by_cases z7 : rd h 151 s = 7
      · rw [if_pos z7]
        by_cases zi : Int32.ofNat i = rd h 154 s
        · rw [if_pos zi, if_neg (fun u => (of_decide_eq_true u).2 ⟨z7, zi⟩)]
          exact IH
        · rw [if_neg zi, if_pos (decide_eq_true ⟨z3, fun u => zi u.2⟩)]
          rfl
      · rw [if_neg z7, if_pos (decide_eq_true ⟨z3, fun u => z7 u.1⟩)]
        rfl
    · rw [if_neg z3, if_neg (fun u => z3 (of_decide_eq_true u).1)]
      exact IH
theorem lp_end {N f s fr to : Nat} {h : pH} (hs : Sg h) (hN : 5000 ≤ N) (hsl : s < 1600) (hf : fr ≤ to) (ht : to < 3200) : fX12_checkNodes_6 N (f + 1) 138 (Int32.ofNat s) (Int32.ofNat fr) (Int32.ofNat to) 1 (Int32.ofNat (to + 1)) h = some (kI (fstN (fun m => decide (rd h 148 m = 3 ∧ ¬ (rd h 151 s = 7 ∧ Int32.ofNat m = rd h 154 s))) (to + 1 - fr) fr).isNone, h) := by
  rw [fX12_checkNodes_6, ifLt (by omega) (by omega), if_pos (by omega)]
  unfold fX12_checkNodes_32
  exact lpv2 hs hsl ht (to + 1 - fr) fr N (by omega) (by omega)
/-- an expression's nodes, as a statement's value -/
def Pgm.vlT (P : Pgm) (c : Nat) (E : EnvV) (e : Tr) (call : Bool) : Option Nat := (P.te c E e).bind fun r => hdO r fun t => if t = 3 ∧ call = false then none else some t
theorem i_is3 {P : Pgm} {t : Nat} (hn : P.n ≤ 400) (h : P.tOk t) : (Int32.ofNat t = 3) ↔ t = 3 := by
  have := tOk_lt hn h
  exact ⟨fun z => (iEq (by omega) (by omega)).mp (show Int32.ofNat t = Int32.ofNat 3 from z), fun z => by rw [z]; rfl⟩
theorem RS.nodes {S : Tks} {P : Pgm} {D : List Int32 → Prop} {num : List Int32 → Nat} {c N s n l : Nat} {E : EnvV} {e : Tr} {call : Bool} {h : pH} (hN : 5000 ≤ N) (ha : Acy P) (hc : c < P.n) (p3 : P.P3) (ox : Ox S e) (q : RS P D num c E h) (rn : RN P D num h e n l) (hsl : s < 1600) (hn : n + sz e ≤ 3200) (hl : l + ls e ≤ 3200) (h154 : rd h 154 s = Int32.ofNat (n + sz e - 1)) (h8 : rd h 151 s ≠ 8) (h7 : call = decide (rd h 151 s = 7)) : match P.vlT c E e call with
    | none => ∃ h', fX12_checkNodes N 138 (Int32.ofNat s) (Int32.ofNat n) (Int32.ofNat (n + sz e - 1)) h = some (0, h') ∧ Chg (ndA n (n + sz e)) h h'
    | some t => ∃ h', fX12_checkNodes N 138 (Int32.ofNat s) (Int32.ofNat n) (Int32.ofNat (n + sz e - 1)) h = some (1, h') ∧ P.te c E e = some [t] ∧ rd h' 148 (n + sz e - 1) = Int32.ofNat t ∧ P.tOk t ∧ RXn P num c E h' e n l ∧ Chg (ndA n (n + sz e)) h h' := by
  have hs := q.1.1.1
  have hn4 := q.1.1.n400
  have z1 := ox.sz1
  obtain ⟨nx, ox'⟩ := id ox
  obtain ⟨f, hf⟩ : ∃ f, N = f + 1 + sz e := ⟨N - 1 - sz e, by omega⟩
  have A := RunN.all (S := S) (N := N) (fr := n) (to := n + sz e - 1) (by omega) ha hc hsl (by omega) p3 nx e ox' n l f h q rn (by omega) hl (fun m _ _ z => h8 z.1)
  rw [← hf] at A
  have hck : fX12_checkNodes N 138 (Int32.ofNat s) (Int32.ofNat n) (Int32.ofNat (n + sz e - 1)) h = fX12_checkNodes_6 N N 138 (Int32.ofNat s) (Int32.ofNat n) (Int32.ofNat (n + sz e - 1)) 1 (Int32.ofNat n) h := by
    unfold fX12_checkNodes
    rw [if_pos (o_138 hs)]
  rw [hck]
  unfold Pgm.vlT
  cases hx : P.te c E e with
  | none => rw [hx] at A; exact A
  | some r =>
    rw [hx] at A
    obtain ⟨h1, e1, e2, e3, v3, g⟩ := A
    obtain ⟨t, rfl, _⟩ := ox.te_one hx
    obtain ⟨t1, t2, _⟩ := TyT.root ox e2
    have hs1 : Sg h1 := hs.of g.1
    have r151 : rd h1 151 s = rd h 151 s := g.2.2.1 _ _ (by unfold ndA; omega)
    have r154 : rd h1 154 s = rd h 154 s := g.2.2.1 _ _ (by unfold ndA; omega)
    have E1 := lp_end (N := N) (f := f) (fr := n) (to := n + sz e - 1) hs1 hN hsl (by omega) (by omega)
    rw [show n + sz e - 1 + 1 = n + sz e by omega] at E1
    rw [e1, E1, Option.bind_some]
    show match (if t = 3 ∧ call = false then none else some t) with
      | none => _
      | some t => _
    by_cases z : t = 3 ∧ call = false
    · rw [if_pos z]
      have hne : (fstN (fun m => decide (rd h1 148 m = 3 ∧ ¬ (rd h1 151 s = 7 ∧ Int32.ofNat m = rd h1 154 s))) (n + sz e - n) n).isNone = false := by
        rcases hfs : fstN (fun m => decide (rd h1 148 m = 3 ∧ ¬ (rd h1 151 s = 7 ∧ Int32.ofNat m = rd h1 154 s))) (n + sz e - n) n with _ | m
        · have f1 := fstN_none hfs (n + sz e - 1) (by omega) (by omega)
          have f2 : decide (rd h1 148 (n + sz e - 1) = 3 ∧ ¬ (rd h1 151 s = 7 ∧ Int32.ofNat (n + sz e - 1) = rd h1 154 s)) = true := by
            refine decide_eq_true ⟨by rw [t1, z.1]; rfl, fun u => ?_⟩
            rw [r151] at u
            rw [decide_eq_true u.1] at h7
            rw [h7] at z
            cases z.2
          rw [f2] at f1
          cases f1
        · rfl
      exact ⟨h1, by rw [hne]; rfl, g⟩
    · rw [if_neg z]
      have hne : (fstN (fun m => decide (rd h1 148 m = 3 ∧ ¬ (rd h1 151 s = 7 ∧ Int32.ofNat m = rd h1 154 s))) (n + sz e - n) n).isNone = true := by
        rcases hfs : fstN (fun m => decide (rd h1 148 m = 3 ∧ ¬ (rd h1 151 s = 7 ∧ Int32.ofNat m = rd h1 154 s))) (n + sz e - n) n with _ | m
        · rfl
        · exfalso
          obtain ⟨m1, m2, m3, m4⟩ := fstN_some hfs
          obtain ⟨d1, d2⟩ := of_decide_eq_true m3
          obtain ⟨v4, v5⟩ := v3 m m1 (by omega) d1
          have h3 := List.mem_singleton.mp v4
          have h7t : call = true := by
            cases hcl : call with
            | true => rfl
            | false => exact absurd ⟨h3.symm, hcl⟩ z
          have h7' : rd h 151 s = 7 := of_decide_eq_true (by rw [← h7]; exact h7t)
          refine d2 ⟨by rw [r151]; exact h7', ?_⟩
          rw [r154, h154]
          have v6 := v5 (by
            obtain ⟨k, v, w, a, b, rfl, k1, k2⟩ := ox.nd
            exact decide_eq_true (show k ≠ 70 by omega))
          rw [show n + sz e - 1 = m by omega]
      exact ⟨h1, by rw [hne]; rfl, rfl, t1, t2, e3, g⟩
