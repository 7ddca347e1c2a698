/-! ===== THE CLASS' SCOPE: tell, open, turn, leave, merge ===== -/
def mxM (M n : Nat) : Nat := if M < n then n else M
theorem e8_add71 {N n M : Nat} {h : pH} (hs : Sg h) (h2 : rd h 52 2 = Int32.ofNat n) (h3 : rd h 52 3 = Int32.ofNat M) (hn : n < 2000) (hM : M < 2000) : fX8_add_71 N 52 h = some (Int32.ofNat n, wr (wr h 52 2 (Int32.ofNat (n + 1))) 52 3 (Int32.ofNat (mxM M (n + 1)))) := by
  have hs1 := hs.wr 52 2 (Int32.ofNat (n + 1))
  have hs2 := hs1.wr 52 3 (Int32.ofNat (mxM M (n + 1)))
  have e3 : rd (wr h 52 2 (Int32.ofNat (n + 1))) 52 3 = Int32.ofNat M := by rw [rd_wr_ne _ _ (by omega)]; exact h3
  have e4 : (if Int32.ofNat M < Int32.ofNat (n + 1) then Int32.ofNat (n + 1) else Int32.ofNat M) = Int32.ofNat (mxM M (n + 1)) := by
    rw [ifLt (by omega) (by omega)]
    unfold mxM
    split <;> rfl
  have e5 : rd (wr (wr h 52 2 (Int32.ofNat (n + 1))) 52 3 (Int32.ofNat (mxM M (n + 1)))) 52 2 = Int32.ofNat (n + 1) := by rw [rd_wr_ne _ _ (by omega), w_52_2 hs]
  unfold fX8_add_71
  rw [g_52_2 hs, Option.bind_some, h2, i_add1, p_52_2 hs, Option.bind_some, g_52_3 hs1, Option.bind_some, e3, g_52_2 hs1, Option.bind_some, w_52_2 hs, e4, p_52_3 hs1, Option.bind_some, g_52_2 hs2, Option.bind_some, e5, i_sub1]
theorem CSc.add {P : Pgm} {D : List Int32 → Prop} {num : List Int32 → Nat} {E : EnvV} {M N t : Nat} {w : List Int32} {s : Bool} {h : pH} (hs : Sg h) (q : CSc P D num E M h) (hw : D w) (ht : P.tOk t) (h5 : t ≠ 5) (hlen : E.1.length < 999) : ∃ h', fX8_add N 52 (Int32.ofNat (num w)) (ctI t) (kI s) h = some (Int32.ofNat E.1.length, h') ∧ CSc P D num (E.add w t s) (mxM M (E.1.length + 1)) h' ∧ Chg (fun a k => a = 55 ∨ (a = 52 ∧ (k = 2 ∨ k = 3)) ∨ ((a = 53 ∨ a = 54) ∧ k = E.1.length)) h h' := by
  obtain ⟨q1, q2, q3, q4, q5, q6, q7⟩ := q
  generalize hn : E.1.length = n at q1 q3 q7 hlen ⊢
  have hs1 := hs.wr 53 n (Int32.ofNat (num w))
  have hs2 := hs1.wr 54 n (ctI t)
  generalize e2 : wr (wr h 53 n (Int32.ofNat (num w))) 54 n (ctI t) = h2 at hs2
  have c2 : Chg (fun a k => a = 55 ∨ (a = 52 ∧ (k = 2 ∨ k = 3)) ∨ ((a = 53 ∨ a = 54) ∧ k = n)) h h2 := by
    rw [← e2]
    exact (Chg.wr _ _ _ _ (by omega)).trans (Chg.wr _ _ _ _ (by omega))
  have r53 : rd h2 53 n = Int32.ofNat (num w) := by rw [← e2, rd_wr_ne _ _ (by omega), W_53 hs]
  have r54 : rd h2 54 n = ctI t := by rw [← e2, W_54 hs1]
  have r55 : ∀ k, rd h2 55 k = rd h 55 k := fun k => by rw [← e2, rd_wr_ne _ _ (by omega), rd_wr_ne _ _ (by omega)]
  have b2 : rd h2 52 2 = Int32.ofNat n := by rw [← e2, rd_wr_ne _ _ (by omega), rd_wr_ne _ _ (by omega)]; exact q1
  have b3 : rd h2 52 3 = Int32.ofNat M := by rw [← e2, rd_wr_ne _ _ (by omega), rd_wr_ne _ _ (by omega)]; exact q2
  have b5 : rd h2 52 5 = kI E.2.1 := by rw [c2.2.2.1 _ _ (by omega)]; exact q6
  have hs3 := hs2.wr 55 (n / 32) (rd h2 55 (n / 32) &&& (mk1 (n % 32) ^^^ (-1 : Int32)))
  have t3 := fun j => bt_take hs2 (show n < 1000 by omega) j
  have c3 : Chg (fun a _ => a = 55) h2 (wr h2 55 (n / 32) (rd h2 55 (n / 32) &&& (mk1 (n % 32) ^^^ (-1 : Int32)))) := Chg.wr _ _ _ _ rfl
  generalize e3 : wr h2 55 (n / 32) (rd h2 55 (n / 32) &&& (mk1 (n % 32) ^^^ (-1 : Int32))) = h3 at hs3 t3 c3
  have t4 := fun j => bt_give hs3 (show n < 1000 by omega) j
  have c4 : Chg (fun a _ => a = 55) h3 (wr h3 55 (n / 32) (rd h3 55 (n / 32) ||| mk1 (n % 32))) := Chg.wr _ _ _ _ rfl
  have hs4 := hs3.wr 55 (n / 32) (rd h3 55 (n / 32) ||| mk1 (n % 32))
  have key : ∃ h5, Sg h5 ∧ Chg (fun a _ => a = 55) h2 h5 ∧ (∀ j, bt (rd h5 55 (j / 32)) (j % 32) = if j = n then s else bt (rd h 55 (j / 32)) (j % 32)) ∧ fX8_add N 52 (Int32.ofNat (num w)) (ctI t) (kI s) h = fX8_add_71 N 52 h5 := by
    have e0 : fX8_add N 52 (Int32.ofNat (num w)) (ctI t) (kI s) h = if s = true then fX8_add_71 N 52 (wr h3 55 (n / 32) (rd h3 55 (n / 32) ||| mk1 (n % 32))) else fX8_add_71 N 52 h3 := by
      have z2 : rd (wr h 53 n (Int32.ofNat (num w))) 52 2 = Int32.ofNat n := by rw [rd_wr_ne _ _ (by omega)]; exact q1
      have z3 : rd h3 52 2 = Int32.ofNat n := by rw [c3.2.2.1 _ _ (by omega)]; exact b2
      unfold fX8_add
      rw [if_pos (o_52 hs), g_52_2 hs, Option.bind_some, q1, show (1000 : Int32) = Int32.ofNat 1000 from rfl, ifLt (by omega) (by omega), if_pos (by omega), R_52_0 hs, Option.bind_some, Option.bind_some, T_53 hs (by omega), Option.bind_some, R_52_1 hs1, Option.bind_some, g_52_2 hs1, Option.bind_some, z2, T_54 hs1 (by omega), Option.bind_some, e2, R_52_4 hs2, Option.bind_some, g_52_2 hs2, Option.bind_some, b2, i_sh5 n (by omega), L_55 hs2 (by omega), Option.bind_some, Option.bind_some, i_m31 n (by omega), T_55 hs2 (by omega), Option.bind_some, e3, kI_if, g_52_2 hs3, Option.bind_some, z3, e8_give hs3 (by omega), Option.bind_some]
    cases s with
    | true =>
      refine ⟨_, hs4, c3.trans c4, fun j => ?_, by rw [e0, if_pos rfl]⟩
      rw [t4 j, t3 j, r55]
      by_cases z : j = n
      · rw [if_pos z, decide_eq_true z, Bool.or_true]
      · rw [if_neg z, decide_eq_false z, Bool.or_false, Bool.not_false, Bool.and_true]
    | false =>
      refine ⟨_, hs3, c3, fun j => ?_, by rw [e0, if_neg Bool.false_ne_true]⟩
      rw [t3 j, r55]
      by_cases z : j = n
      · rw [if_pos z, decide_eq_true z, Bool.not_true, Bool.and_false]
      · rw [if_neg z, decide_eq_false z, Bool.not_false, Bool.and_true]
  obtain ⟨h5', hs5, c5, t5, e5⟩ := key
  have d2 : rd h5' 52 2 = Int32.ofNat n := by rw [c5.2.2.1 _ _ (by omega)]; exact b2
  have d3 : rd h5' 52 3 = Int32.ofNat M := by rw [c5.2.2.1 _ _ (by omega)]; exact b3
  have e71 := e8_add71 (N := N) hs5 d2 d3 (by omega) (by omega)
  have hs6 := hs5.wr 52 2 (Int32.ofNat (n + 1))
  have cc : Chg (fun a k => a = 52 ∧ (k = 2 ∨ k = 3)) h5' (wr (wr h5' 52 2 (Int32.ofNat (n + 1))) 52 3 (Int32.ofNat (mxM M (n + 1)))) := (Chg.wr _ _ _ _ (by omega)).trans (Chg.wr _ _ _ _ (by omega))
  have hmx : n + 1 ≤ mxM M (n + 1) ∧ mxM M (n + 1) < 1000 := by unfold mxM; split <;> omega
  have hl : (E.add w t s).1.length = n + 1 := by
    show (E.1 ++ [(w, t)]).length = n + 1
    rw [List.length_append, hn]
    rfl
  refine ⟨_, by rw [e5, e71], ⟨?_, w_52_3 hs6 _, by rw [hl]; exact hmx.1, hmx.2, fun i x hx => ?_, ?_, fun hd i hi => ?_⟩, (c2.trans (c5.mono (fun a k z => by omega))).trans (cc.mono (fun a k z => by omega))⟩
  · rw [rd_wr_ne _ _ (by omega), w_52_2 hs5, hl]
  · rw [cc.2.2.1 _ _ (by omega), cc.2.2.1 _ _ (by omega), c5.2.2.1 _ _ (by omega), c5.2.2.1 _ _ (by omega)]
    have hx' : (E.1 ++ [(w, t)])[i]? = some x := hx
    by_cases z : i < n
    · rw [List.getElem?_append_left (by omega)] at hx'
      rw [c2.2.2.1 _ _ (by omega), c2.2.2.1 _ _ (by omega)]
      exact q5 i x hx'
    · rw [List.getElem?_append_right (by omega)] at hx'
      have hi0 := (List.getElem?_eq_some_iff.mp hx').1
      have hi1 : i = n := by
        have : ([(w, t)] : List (List Int32 × Nat)).length = 1 := rfl
        omega
      subst hi1
      rw [hn, Nat.sub_self] at hx'
      obtain rfl := Option.some.inj hx'
      exact ⟨hw, r53, r54, ht, h5⟩
  · rw [cc.2.2.1 _ _ (by omega), c5.2.2.1 _ _ (by omega)]
    exact b5
  · rw [cc.2.2.1 _ _ (by omega), t5 i]
    show _ = if i = E.1.length then s else E.2.2 i
    rw [hn]
    by_cases z : i = n
    · rw [if_pos z, if_pos z]
    · rw [if_neg z, if_neg z]
      exact q7 hd i (by omega)
