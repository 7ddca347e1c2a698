/-! ===== FIELDS: the reference, all classes ===== -/
theorem RSl.if_lt {P : Pgm} {U : Nat → Bool} {h : pH} (r : RSl P U h) (hn : P.n ≤ 400) (hm : P.ms.length ≤ 1000) {c : Nat} (hc : c < P.n) {α : Type} (x y : α) : (if rd h 166 c < 0 then x else y) = if U c = true then y else x := by
  rw [(r c hc).1]
  cases U c with
  | true => rw [if_pos rfl, if_neg (i_nneg (Pgm.nf_lt hn hm c)), if_pos rfl]
  | false => rw [if_neg Bool.false_ne_true, if_pos (by decide), if_neg Bool.false_ne_true]
theorem RT.slot_one {P : Pgm} {D : List Int32 → Prop} {num : List Int32 → Nat} {N c x k : Nat} {U : Nat → Bool} {h : pH} (hN : 1100 ≤ N) (ha : Acy P) (q : RT P D num h) (hp : RPr P h) (r : RSl P U h) (hc : c < P.n) (hx : x < P.n) (hu : U c = false) (hux : U x = false) (hpx : ∀ e, P.par x = some e → U e = true) : ∃ h', fX12_setSlots_51 N (k + 1) 138 (Int32.ofNat c) (Int32.ofNat x) h = fX12_setSlots_145 N (fX12_setSlots_51 N k) N 138 (Int32.ofNat c) (Int32.ofNat c) h' ∧ RSl P (fun y => U y || decide (y = x)) h' ∧ Chg (fun a _ => a = 166 ∨ a = 175) h h' := by
  obtain ⟨q1, q2, q3, q4, q5, q6, q7, q8, q9, q10, q11, q12⟩ := id q
  have hml := P.mf_le (x + 1)
  have hmo := P.mf_mono (c := x)
  rw [← P.ms_len] at hml
  obtain ⟨h1, e1, e2, e3, e4⟩ := RT.slot_93 (k51 := fX12_setSlots_51 N k) (N := N) (v := Int32.ofNat c) (D := D) (num := num) ha hx (P.mf (x + 1) - P.mf x) (P.mf x) N h (by omega) (by omega) (by omega) q
  have hof : P.off x (P.mf x) = P.abv x := by unfold Pgm.off; rw [Nat.sub_self]; rfl
  rw [hof] at e1
  have e84 : fX12_setSlots_84 N (fX12_setSlots_51 N k) 138 (Int32.ofNat c) (Int32.ofNat x) (Int32.ofNat (P.abv x)) h = fX12_setSlots_145 N (fX12_setSlots_51 N k) N 138 (Int32.ofNat c) (Int32.ofNat c) h1 := by
    unfold fX12_setSlots_84
    rw [R_138_43 q1, Option.bind_some, L_167 q1 (by omega), Option.bind_some, q8 x (by omega), e1]
  refine ⟨h1, ?_, fun y hy => ?_, e4.mono (fun a k z => by omega)⟩
  · rw [fX12_setSlots_51, R_138_42 q1, Option.bind_some, L_166 q1 (by omega), Option.bind_some, r.if_nn (by omega) (by omega) hc, if_neg (by rw [hu]; exact Bool.false_ne_true), R_138_41 q1, Option.bind_some, L_165 q1 (by omega), Option.bind_some, hp x hx, i_nn_oI (fun e he => by have := Pgm.par_lt he; omega)]
    unfold Pgm.abv at e84
    rcases hpe : P.par x with _ | e
    · rw [hpe] at e84
      exact e84
    · rw [hpe] at e84
      have he := Pgm.par_lt hpe
      have hre : rd h 166 e = Int32.ofNat (P.nf e) := by rw [(r e he).1, if_pos (hpx e hpe)]
      rw [if_neg (show ¬ (some e).isNone = true from Bool.false_ne_true), Option.bind_some, Option.bind_some, L_165 q1 (by omega), Option.bind_some, hp x hx, hpe, show oI (-1) (some e) = Int32.ofNat e from rfl, L_166 q1 (by omega), Option.bind_some, hre]
      exact e84
  · by_cases z : y = x
    · have hU : (U x || decide (x = x)) = true := by rw [decide_eq_true rfl, Bool.or_true]
      rw [z]
      exact ⟨by rw [e2]; exact (if_pos hU).symm, fun _ j j1 j2 j3 => e3 j (by omega) j2 j3⟩
    · have hU : (U y || decide (y = x)) = U y := by rw [decide_eq_false z, Bool.or_false]
      obtain ⟨r1, r2⟩ := r y hy
      refine ⟨?_, fun hy2 j j1 j2 j3 => ?_⟩
      · rw [e4.2.2.1 _ _ (by omega), r1]
        by_cases w : U y = true
        · rw [if_pos w]; exact (if_pos (hU.trans w)).symm
        · rw [if_neg w]; exact (if_neg (fun v => w (hU.symm.trans v))).symm
      replace hy2 : U y = true := hU.symm.trans hy2
      have hd : ¬ (P.mf x ≤ j ∧ j < P.mf (x + 1)) := by
        rcases Nat.lt_or_ge y x with w | w
        · have := P.mf_mo (show y + 1 ≤ x by omega)
          omega
        · have := P.mf_mo (show x + 1 ≤ y by omega)
          omega
      rw [e4.2.2.1 _ _ (by omega)]
      exact r2 hy2 j j1 j2 j3
theorem RT.slots_51 {P : Pgm} {D : List Int32 → Prop} {num : List Int32 → Nat} {N c : Nat} (hN : 1100 ≤ N) (ha : Acy P) (hc : c < P.n) : ∀ (f k : Nat) (U : Nat → Bool) (h : pH), RT P D num h → RPr P h → RSl P U h → StpU P U c f → U c = false → f + 1 < k → f ≤ P.n → ∃ h' U', fX12_setSlots_51 N k 138 (Int32.ofNat c) (Int32.ofNat (P.it c f)) h = some (Int32.ofNat (P.nf c), h') ∧ RSl P U' h' ∧ U' c = true ∧ (∀ x, U x = true → U' x = true) ∧ Chg (fun a _ => a = 166 ∨ a = 175) h h'
  | 0, k, U, h, q, hp, r, s, hu, hk, hf => by
    obtain ⟨k, rfl⟩ : ∃ k', k = k' + 1 + 1 := ⟨k - 2, by omega⟩
    have h0 : P.it c 0 = c := rfl
    obtain ⟨h1, e1, e2, e3⟩ := RT.slot_one (D := D) (num := num) (k := k + 1) hN ha q hp r hc (show P.it c 0 < P.n from hc) hu (show U (P.it c 0) = false from hu) s.2
    have q' := q.chg e3 (fun a k ha => by unfold rtA at ha; omega) (by omega) (by omega)
    have hp' : RPr P h1 := fun c hc => by rw [e3.2.2.1 _ _ (by omega)]; exact hp c hc
    have s' : StpU P (fun y => U y || decide (y = P.it c 0)) c 0 := ⟨fun i hi => by omega, fun e he => by
      show (U e || decide (e = P.it c 0)) = true
      rw [s.2 e he]
      rfl⟩
    have cl := q'.climb_145 (N := N) (v := c) (k51 := fX12_setSlots_51 N (k + 1)) hp' e2 s' hc 0 0 N (by omega) (by omega)
    rw [h0] at cl
    obtain ⟨q1, q2, q3, q4, q5, q6, q7, q8, q9, q10, q11, q12⟩ := id q'
    have ht : (U c || decide (c = P.it c 0)) = true := by rw [h0, decide_eq_true rfl, Bool.or_true]
    have hv : rd h1 166 c = Int32.ofNat (P.nf c) := by rw [(e2 c hc).1, if_pos ht]
    refine ⟨h1, _, ?_, e2, ht, fun x hx => by show (U x || _) = true; rw [hx]; rfl, e3⟩
    rw [e1, cl, fX12_setSlots_51, R_138_42 q1, Option.bind_some, L_166 q1 (by omega), Option.bind_some, e2.if_nn (by omega) (by omega) hc, if_pos ht, Option.bind_some, L_166 q1 (by omega), Option.bind_some, hv]
  | f + 1, k, U, h, q, hp, r, s, hu, hk, hf => by
    obtain ⟨k, rfl⟩ : ∃ k', k = k' + 1 := ⟨k - 1, by omega⟩
    have hn := q.2.2.2.2.2.1
    have hlt := s.lt hc (f + 1) (by omega)
    obtain ⟨h1, e1, e2, e3⟩ := RT.slot_one (D := D) (num := num) (k := k) hN ha q hp r hc hlt hu (s.1 f (by omega)).2 s.2
    have q' := q.chg e3 (fun a k ha => by unfold rtA at ha; omega) (by omega) (by omega)
    have hp' : RPr P h1 := fun c hc => by rw [e3.2.2.1 _ _ (by omega)]; exact hp c hc
    have hne : ∀ i, i < f + 1 → P.it c i ≠ P.it c (f + 1) := fun i hi z => by
      have := s.dep ha i (f + 1 - i) (by omega)
      rw [show i + (f + 1 - i) = f + 1 by omega, z] at this
      omega
    have s' : StpU P (fun y => U y || decide (y = P.it c (f + 1))) c f := ⟨fun i hi => ⟨(s.1 i (by omega)).1, by
      show (U (P.it c (i + 1)) || decide (P.it c (i + 1) = P.it c (f + 1))) = false
      rw [(s.1 i (by omega)).2, decide_eq_false (hne (i + 1) (by omega))]
      rfl⟩, fun e he => by
      show (U e || decide (e = P.it c (f + 1))) = true
      rw [(s.1 f (by omega)).1] at he
      rw [← Option.some.inj he, decide_eq_true rfl, Bool.or_true]⟩
    have cl := q'.climb_145 (N := N) (v := c) (k51 := fX12_setSlots_51 N k) hp' e2 s' hc f 0 N (by omega) (by omega)
    rw [show P.it c 0 = c from rfl] at cl
    obtain ⟨h2, U2, f1, f2, f3, f4, f5⟩ := RT.slots_51 hN ha hc f k _ h1 q' hp' e2 s' (by
      show (U c || decide (c = P.it c (f + 1))) = false
      rw [hu, decide_eq_false (show ¬ c = P.it c (f + 1) from hne 0 (by omega))]
      rfl) (by omega) (by omega)
    refine ⟨h2, U2, ?_, f2, f3, fun x hx => f4 x (by show (U x || _) = true; rw [hx]; rfl), e3.trans f5⟩
    rw [e1, cl, f1]
theorem RT.setSlots {P : Pgm} {D : List Int32 → Prop} {num : List Int32 → Nat} {N c : Nat} {U : Nat → Bool} {h : pH} (hN : 1100 ≤ N) (ha : Acy P) (q : RT P D num h) (hp : RPr P h) (r : RSl P U h) (hc : c < P.n) : ∃ h' U', fX12_setSlots N 138 (Int32.ofNat c) h = some (Int32.ofNat (P.nf c), h') ∧ RSl P U' h' ∧ U' c = true ∧ (∀ x, U x = true → U' x = true) ∧ Chg (fun a _ => a = 166 ∨ a = 175) h h' := by
  obtain ⟨q1, q2, q3, q4, q5, q6, q7, q8, q9, q10, q11, q12⟩ := id q
  have e0 : fX12_setSlots N 138 (Int32.ofNat c) h = if U c = true then some (rd h 166 c, h) else fX12_setSlots_18 N N 138 (Int32.ofNat c) (Int32.ofNat c) h := by
    unfold fX12_setSlots
    rw [if_pos (o_138 q1), R_138_42 q1, Option.bind_some, L_166 q1 (by omega), Option.bind_some, r.if_lt (by omega) (by omega) hc, Option.bind_some, L_166 q1 (by omega), Option.bind_some]
  cases hu : U c with
  | true =>
    rw [hu, if_pos rfl] at e0
    refine ⟨h, U, ?_, r, hu, fun x hx => hx, Chg.refl _ _⟩
    rw [e0, (r c hc).1, if_pos hu]
  | false =>
    rw [hu, if_neg Bool.false_ne_true] at e0
    obtain ⟨f, hf, s⟩ := StpU.ex ha U (P.dep c) c rfl
    have hd := P.depF_le P.n c
    have hfn : f ≤ P.n := Nat.le_trans hf hd
    have cl := q.climb_18 (N := N) (v := c) hp r s hc f 0 N (by omega) (by omega)
    rw [show P.it c 0 = c from rfl] at cl
    obtain ⟨h2, U2, f1, f2, f3, f4, f5⟩ := RT.slots_51 hN ha hc f N U h q hp r s hu (by omega) hfn
    exact ⟨h2, U2, by rw [e0, cl, f1], f2, f3, f4, f5⟩
/-- the reference's fields lie as they should -/
def RLy (P : Pgm) (h : pH) : Prop := ∀ c, c < P.n → rd h 166 c = Int32.ofNat (P.nf c) ∧ ∀ j, P.mf c ≤ j → j < P.mf (c + 1) → P.isF j = true → rd h 175 j = Int32.ofNat (P.off c j)
theorem RT.lay_349 {P : Pgm} {D : List Int32 → Prop} {num : List Int32 → Nat} {N : Nat} (hN : 1100 ≤ N) (ha : Acy P) : ∀ (d c k : Nat) (U : Nat → Bool) (h : pH), c + d = P.n → d < k → RT P D num h → RPr P h → RSl P U h → rd h 138 58 = -1 → (∀ x, x < c → U x = true) → ∃ h', fX12_program_349 N k 138 (Int32.ofNat c) h = fX12_program_377 N 138 h' ∧ RLy P h' ∧ Chg (fun a _ => a = 166 ∨ a = 175) h h'
  | 0, c, k, U, h, hd, hk, q, hp, r, hb, hu => by
    obtain ⟨k, rfl⟩ : ∃ k', k = k' + 1 := ⟨k - 1, by omega⟩
    have hn := q.2.2.2.2.2.1
    refine ⟨h, ?_, fun x hx => ?_, Chg.refl _ _⟩
    · rw [fX12_program_349, g_138_37 q.1, Option.bind_some, q.2.2.2.2.1, ifLe (by omega) (by omega), if_pos (by omega)]
    · have h1 := hu x (by omega)
      obtain ⟨r1, r2⟩ := r x hx
      rw [h1, if_pos rfl] at r1
      exact ⟨r1, r2 h1⟩
  | d + 1, c, k, U, h, hd, hk, q, hp, r, hb, hu => by
    obtain ⟨k, rfl⟩ : ∃ k', k = k' + 1 := ⟨k - 1, by omega⟩
    have hn := q.2.2.2.2.2.1
    obtain ⟨h1, U1, e1, e2, e3, e4, e5⟩ := RT.setSlots hN ha q hp r (show c < P.n by omega)
    have q' := q.chg e5 (fun a k ha => by unfold rtA at ha; omega) (by omega) (by omega)
    have hp' : RPr P h1 := fun c hc => by rw [e5.2.2.1 _ _ (by omega)]; exact hp c hc
    obtain ⟨h2, f1, f2, f3⟩ := RT.lay_349 hN ha d (c + 1) k U1 h1 (by omega) (by omega) q' hp' e2 (by rw [e5.2.2.1 _ _ (by omega)]; exact hb) (fun x hx => by
      by_cases z : x = c
      · rw [z]; exact e3
      · exact e4 x (hu x (by omega)))
    refine ⟨h2, ?_, f2, e5.trans f3⟩
    rw [fX12_program_349, g_138_37 q.1, Option.bind_some, q.2.2.2.2.1, ifLe (by omega) (by omega), if_neg (by omega), g_138_58 q.1, Option.bind_some, if_neg (bad_neg hb), e1, Option.bind_some, i_add1]
    exact f1
theorem RT.lay_326 {P : Pgm} {D : List Int32 → Prop} {num : List Int32 → Nat} {N : Nat} : ∀ (d c k : Nat) (h : pH), c + d = P.n → d < k → RT P D num h → (∀ x, x < c → rd h 166 x = -1) → ∃ h', fX12_program_326 N k 138 (Int32.ofNat c) h = fX12_program_349 N N 138 0 h' ∧ (∀ x, x < P.n → rd h' 166 x = -1) ∧ Chg (fun a _ => a = 166) h h'
  | 0, c, k, h, hd, hk, q, hu => by
    obtain ⟨k, rfl⟩ : ∃ k', k = k' + 1 := ⟨k - 1, by omega⟩
    have hn := q.2.2.2.2.2.1
    refine ⟨h, ?_, fun x hx => hu x (by omega), Chg.refl _ _⟩
    rw [fX12_program_326, g_138_37 q.1, Option.bind_some, q.2.2.2.2.1, ifLe (by omega) (by omega), if_pos (by omega)]
  | d + 1, c, k, h, hd, hk, q, hu => by
    obtain ⟨k, rfl⟩ : ∃ k', k = k' + 1 := ⟨k - 1, by omega⟩
    have hn := q.2.2.2.2.2.1
    have g : Chg (fun a _ => a = 166) h (wr h 166 c (-1)) := Chg.wr _ _ _ _ rfl
    have q' := q.chg g (fun a k ha => by unfold rtA at ha; omega) (by omega) (by omega)
    obtain ⟨h2, f1, f2, f3⟩ := RT.lay_326 (N := N) d (c + 1) k _ (by omega) (by omega) q' (fun x hx => by
      by_cases z : x = c
      · rw [z, W_166 q.1]
      · rw [rd_wr_ne _ _ (by omega)]
        exact hu x (by omega))
    refine ⟨h2, ?_, f2, g.trans f3⟩
    rw [fX12_program_326, g_138_37 q.1, Option.bind_some, q.2.2.2.2.1, ifLe (by omega) (by omega), if_neg (by omega), R_138_42 q.1, Option.bind_some, T_166 q.1 (by omega), Option.bind_some, i_add1]
    exact f1
