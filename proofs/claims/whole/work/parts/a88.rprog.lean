/-! ===== THE REFERENCE'S TYPER: all methods ===== -/
def tyR2 (a k : Nat) : Prop := a = 144 ∨ a = 147 ∨ a = 148 ∨ a = 182 ∨ a = 156 ∨ a = 158 ∨ (178 ≤ a ∧ a ≤ 181) ∨ (a = 138 ∧ (k = 56 ∨ k = 58 ∨ k = 60 ∨ k = 61 ∨ k = 62 ∨ k = 66))
theorem rmA.ty {s s' n n' : Nat} (a k : Nat) (h : rmA s s' n n' a k) : tyR2 a k := by
  unfold rmA tsA ndA at h
  unfold tyR2
  omega
/-- methods as the grammar makes them, told for the reference -/
def GR (P : Pgm) : Prop := ∀ (m : Nat) (b : Mb), P.ms[m]? = some b → b.1 = true → PlB (mbB b) ∧ b.2.2.2.2.2.2 ≤ 3000 ∧ P.pfine b = true
theorem Pgm.chkM_place {S : Tks} {P : Pgm} {c m q : Nat} {b : Mb} (gp : GP S P) (gr : GR P) (hb : P.ms[m]? = some b) (hbm : b.1 = true) (h : P.chkM c b = some q) : q ≤ 3000 := by
  obtain ⟨⟨n, hg⟩, _⟩ := gp m b hb hbm
  obtain ⟨pl, pe, _⟩ := gr m b hb hbm
  unfold Pgm.chkM at h
  cases hr : P.chk c (P.rt b.2.1) (mbB b) (P.e0 b) with
  | inl p =>
    rw [hr] at h
    obtain rfl : p = q := Option.some.inj h
    exact Pgm.chk_place n _ _ _ hg pl hr
  | inr E =>
    rw [hr] at h
    have h : (if P.rt b.2.1 = 3 ∨ E.2.1 = true then none else some b.2.2.2.2.2.2) = some q := h
    split at h
    · cases h
    · obtain rfl := Option.some.inj h
      exact pe
/-- methods below m are typed, those from m on not yet -/
def RyI (P : Pgm) (D : List Int32 → Prop) (num : List Int32 → Nat) (m : Nat) (h : pH) : Prop := RK P D num h ∧ rd h 138 58 = -1 ∧ (∀ j b, m ≤ j → P.ms[j]? = some b → b.1 = true → RCdM P D num h j b) ∧ ∀ j b, j < m → P.ms[j]? = some b → b.1 = true → RTM P num h (P.ow j) j b
/-- what comes of the rest of program() -/
def PgR (P : Pgm) (D : List Int32 → Prop) (num : List Int32 → Nat) (m : Nat) (o : Option Nat) (x : Option (Int32 × pH)) (y : pH → Option (Int32 × pH)) (h : pH) : Prop := match o with
  | some p => ∃ h', x = some (-10000 - Int32.ofNat p, h') ∧ rd h' 138 56 = rd h 138 56 ∧ Chg tyR2 h h'
  | none => ∃ h', x = y h' ∧ RyI P D num m h' ∧ rd h' 138 56 = rd h 138 56 ∧ Chg tyR2 h h'
theorem rm56 {s s' n n' : Nat} : ¬ rmA s s' n n' 138 56 := by unfold rmA tsA ndA; omega
theorem pg451_bad {N p : Nat} {h : pH} (hs : Sg h) (hp : p ≤ 3000) (h58 : rd h 138 58 = Int32.ofNat p) : fX12_program_451 N 138 h = some (-10000 - Int32.ofNat p, h) := by
  unfold fX12_program_451
  rw [g_138_58 hs, Option.bind_some, h58, if_neg (i_nneg (by omega)), Option.bind_some]
theorem pg379_bad {N k p : Nat} {v : Int32} {h : pH} (hs : Sg h) (hp : p ≤ 3000) (h58 : rd h 138 58 = Int32.ofNat p) : fX12_program_379 N (k + 1) 138 v h = some (-10000 - Int32.ofNat p, h) := by
  rw [fX12_program_379, g_138_37 hs, Option.bind_some, g_138_58 hs, Option.bind_some, h58, if_pos (Int32.not_lt.mp (i_nneg (by omega))), pg451_bad hs hp h58, ite_self]
theorem pg402_bad {N k k' p : Nat} {w : Int32} {c : Nat} {h : pH} (hs : Sg h) (hc : c < 340) (hp : p ≤ 3000) (h58 : rd h 138 58 = Int32.ofNat p) : fX12_program_402 N (fX12_program_379 N (k' + 1)) (k + 1) 138 (Int32.ofNat c) w h = some (-10000 - Int32.ofNat p, h) := by
  rw [fX12_program_402, R_138_43 hs, Option.bind_some, i_add1, L_167 hs (by omega), Option.bind_some, g_138_58 hs, Option.bind_some, h58, if_pos (Int32.not_lt.mp (i_nneg (by omega)))]
  unfold fX12_program_445
  rw [pg379_bad hs hp h58, ite_self]
theorem RyI.ms {S : Tks} {P : Pgm} {D : List Int32 → Prop} {num : List Int32 → Nat} {N c k' : Nat} (hN : 5000 ≤ N) (ha : Acy P) (h5 : P.P5) (p3 : P.P3) (hc : c < P.n) (gp : GP S P) (gr : GR P) (hS : msS P.ms ≤ 1600) (hNn : msN P.ms ≤ 3200) (hL : msL P.ms ≤ 3200) : ∀ (d m k : Nat) (h : pH), m + d = P.mf (c + 1) → P.mf c ≤ m → d + 1 < k → RyI P D num m h → PgR P D num (P.mf (c + 1)) (P.tyMs c d m) (fX12_program_402 N (fX12_program_379 N (k' + 1)) k 138 (Int32.ofNat c) (Int32.ofNat m) h) (fX12_program_379 N (k' + 1) 138 (Int32.ofNat (c + 1))) h
  | 0, m, k + 1, h, hd, hm, hk, q => by
    obtain rfl : m = P.mf (c + 1) := by omega
    have rt := q.1.1
    have hs := rt.1
    have hn := rt.2.2.2.2.2.1
    have hml := rt.2.2.2.2.2.2.2.2.2.2.1
    have hmf : P.mf (c + 1) ≤ P.ms.length := by rw [← Pgm.mf_n]; exact Pgm.mf_mo (by omega)
    refine ⟨h, ?_, q, rfl, Chg.refl _ _⟩
    rw [fX12_program_402, R_138_43 hs, Option.bind_some, i_add1, L_167 hs (by omega), Option.bind_some, rt.2.2.2.2.2.2.2.1 (c + 1) (by omega), ifLe (by omega) (by omega), if_pos (Nat.le_refl _)]
    unfold fX12_program_445
    rw [i_add1]
  | d + 1, m, k + 1, h, hd, hm, hk, q => by
    obtain ⟨q1, q2, q3, q4⟩ := id q
    have rt := q1.1
    have hs := rt.1
    have hn := rt.2.2.2.2.2.1
    have hml := rt.2.2.2.2.2.2.2.2.2.2.1
    have hmf : P.mf (c + 1) ≤ P.ms.length := by rw [← Pgm.mf_n]; exact Pgm.mf_mo (by omega)
    have hmL : m < P.ms.length := by omega
    have hb : P.ms[m]? = some (P.ms[m]'hmL) := List.getElem?_eq_getElem hmL
    generalize P.ms[m]'hmL = b at hb
    have how : P.ow m = c := Pgm.ow_eq hm (by omega) hmL
    have hty : P.tyM c m = if b.1 = true then P.chkM c b else none := by unfold Pgm.tyM; rw [hb]
    have r171 := (rt.2.2.2.2.2.2.2.2.2.2.2 m b hb).2.2.1
    have pre : fX12_program_402 N (fX12_program_379 N (k' + 1)) (k + 1) 138 (Int32.ofNat c) (Int32.ofNat m) h = if b.1 = true then ((fX12_checkMethod N 138 (Int32.ofNat c) (Int32.ofNat m) h).bind fun h14 => fX12_program_402 N (fX12_program_379 N (k' + 1)) k 138 (Int32.ofNat c) (Int32.ofNat (m + 1)) h14) else fX12_program_402 N (fX12_program_379 N (k' + 1)) k 138 (Int32.ofNat c) (Int32.ofNat (m + 1)) h := by
      rw [fX12_program_402, R_138_43 hs, Option.bind_some, i_add1, L_167 hs (by omega), Option.bind_some, rt.2.2.2.2.2.2.2.1 (c + 1) (by omega), ifLe (by omega) (by omega), if_neg (by omega), g_138_58 hs, Option.bind_some, q2, if_neg (show ¬ (0 : Int32) ≤ -1 by decide), R_138_48 hs, Option.bind_some, L_171 hs (by omega), Option.bind_some, r171, kI_if]
      unfold fX12_program_439
      rw [i_add1]
    rw [pre]
    unfold Pgm.tyMs
    by_cases hbm : b.1 = true
    · obtain ⟨⟨ng, hg⟩, hdp, hnv, _⟩ := gp m b hb hbm
      obtain ⟨pl, _, hpf⟩ := gr m b hb hbm
      obtain ⟨h1, e1, e2, e3⟩ := RK.method (S := S) (N := N) hN ha hc p3 h5 hb hbm hg pl hdp hnv hpf hS hNn hL q1 q2 (q3 m b (Nat.le_refl _) hb hbm)
      have hs1 : Sg h1 := hs.of e2.1
      rw [hty, if_pos hbm, if_pos hbm, e1, Option.bind_some]
      rcases hM : P.chkM c b with _ | p
      · rw [hM] at e3
        obtain ⟨e3, e4⟩ := e3
        have ag : ∀ j x, P.ms[j]? = some x → j ≠ m → AgT h h1 (P.rs j) (P.rs j + stB (mbB x)) (P.rn j) (P.rn j + szB (mbB x)) (P.rl j) (P.rl j + lsB (mbB x)) := by
          intro j x hx hjm
          have dis : (P.rs j + stB (mbB x) ≤ P.rs m ∧ P.rn j + szB (mbB x) ≤ P.rn m) ∨ (P.rs m + stB (mbB b) ≤ P.rs j ∧ P.rn m + szB (mbB b) ≤ P.rn j) := by
            rcases Nat.lt_or_ge j m with z | z
            · have := Pgm.rs_next z hx
              exact Or.inl ⟨this.1, this.2.1⟩
            · have := Pgm.rs_next (show m < j by omega) hb
              exact Or.inr ⟨this.1, this.2.1⟩
          exact ⟨fun a k i1 i2 i3 i4 => e2.2.2.1 _ _ (by unfold rmA tsA ndA; omega), fun k => e2.2.2.1 _ _ (by unfold rmA tsA ndA; omega), fun a m' i1 i3 i4 => e2.2.2.1 _ _ (by unfold rmA tsA ndA; omega), fun m' => e2.2.2.1 _ _ (by unfold rmA tsA ndA; omega)⟩
        have inv : RyI P D num (m + 1) h1 := by
          refine ⟨q1.chg e2 rmA.rk, e3, fun j x hj hx hxm => ?_, fun j x hj hx hxm => ?_⟩
          · obtain ⟨⟨n', hg'⟩, _⟩ := gp j x hx hxm
            obtain ⟨⟨c1, c2⟩, c3⟩ := q3 j x (by omega) hx hxm
            exact ⟨⟨by rw [e2.2.2.1 _ _ (by unfold rmA tsA ndA; omega)]; exact c1, by rw [e2.2.2.1 _ _ (by unfold rmA tsA ndA; omega)]; exact c2⟩, RBn.ag n' _ _ _ _ _ hg' c3 (ag j x hx (by omega))⟩
          · by_cases hjm : j = m
            · subst hjm
              rw [hb] at hx
              obtain rfl := Option.some.inj hx
              rw [how]
              exact e4
            · obtain ⟨⟨n', hg'⟩, _⟩ := gp j x hx hxm
              obtain ⟨c1, c3⟩ := q4 j x (by omega) hx hxm
              exact ⟨by rw [e2.2.2.1 _ _ (by unfold rmA tsA ndA; omega)]; exact c1, RTc.ag n' _ _ _ _ _ _ hg' c3 (ag j x hx hjm)⟩
        have R := RyI.ms (S := S) (k' := k') hN ha h5 p3 hc gp gr hS hNn hL d (m + 1) k h1 (by omega) (by omega) (by omega) inv
        show PgR P D num (P.mf (c + 1)) (P.tyMs c d (m + 1)) _ _ h
        cases hty2 : P.tyMs c d (m + 1) with
        | some p =>
          rw [hty2] at R
          obtain ⟨h3, f1, f2, f3⟩ := R
          exact ⟨h3, f1, by rw [f2, e2.2.2.1 _ _ rm56], (e2.mono rmA.ty).trans f3⟩
        | none =>
          rw [hty2] at R
          obtain ⟨h3, f1, f2, f3, f4⟩ := R
          exact ⟨h3, f1, f2, by rw [f3, e2.2.2.1 _ _ rm56], (e2.mono rmA.ty).trans f4⟩
      · rw [hM] at e3
        have hp := Pgm.chkM_place gp gr hb hbm hM
        obtain ⟨k, rfl⟩ : ∃ k0, k = k0 + 1 := ⟨k - 1, by omega⟩
        exact ⟨h1, pg402_bad hs1 (by omega) hp e3, e2.2.2.1 _ _ rm56, e2.mono rmA.ty⟩
    · rw [hty, if_neg hbm, if_neg hbm]
      refine RyI.ms (S := S) (k' := k') hN ha h5 p3 hc gp gr hS hNn hL d (m + 1) k h (by omega) (by omega) (by omega) ⟨q1, q2, fun j x hj hx hxm => q3 j x (by omega) hx hxm, fun j x hj hx hxm => ?_⟩
      by_cases hjm : j = m
      · subst hjm
        rw [hb] at hx
        obtain rfl := Option.some.inj hx
        exact absurd hxm hbm
      · exact q4 j x (by omega) hx hxm
theorem RyI.cs {S : Tks} {P : Pgm} {D : List Int32 → Prop} {num : List Int32 → Nat} {N : Nat} (hN : 5000 ≤ N) (ha : Acy P) (h5 : P.P5) (p3 : P.P3) (gp : GP S P) (gr : GR P) (hS : msS P.ms ≤ 1600) (hNn : msN P.ms ≤ 3200) (hL : msL P.ms ≤ 3200) : ∀ (d c k : Nat) (h : pH), c + d = P.n → 5 ≤ c → d + 1 < k → RyI P D num (P.mf c) h → PgR P D num P.ms.length (P.tyCs d c) (fX12_program_379 N k 138 (Int32.ofNat c) h) (fX12_program_451 N 138) h
  | 0, c, k + 1, h, hd, hc, hk, q => by
    obtain rfl : c = P.n := by omega
    have rt := q.1.1
    have hs := rt.1
    have hn := rt.2.2.2.2.2.1
    rw [Pgm.mf_n] at q
    refine ⟨h, ?_, q, rfl, Chg.refl _ _⟩
    rw [fX12_program_379, g_138_37 hs, Option.bind_some, rt.2.2.2.2.1, ifLe (by omega) (by omega), if_pos (Nat.le_refl _)]
  | d + 1, c, k + 1, h, hd, hc, hk, q => by
    have rt := q.1.1
    have hs := rt.1
    have hn := rt.2.2.2.2.2.1
    have hml := rt.2.2.2.2.2.2.2.2.2.2.1
    have hmf : P.mf (c + 1) ≤ P.ms.length := by rw [← Pgm.mf_n]; exact Pgm.mf_mo (by omega)
    have hmm := Pgm.mf_mono (P := P) (c := c)
    obtain ⟨k0, rfl⟩ : ∃ k0, k = k0 + 1 := ⟨k - 1, by omega⟩
    have M := RyI.ms (S := S) (N := N) (c := c) (k' := k0) hN ha h5 p3 (by omega) gp gr hS hNn hL (P.mf (c + 1) - P.mf c) (P.mf c) N h (by omega) (Nat.le_refl _) (by omega) q
    have pre : fX12_program_379 N (k0 + 1 + 1) 138 (Int32.ofNat c) h = fX12_program_402 N (fX12_program_379 N (k0 + 1)) N 138 (Int32.ofNat c) (Int32.ofNat (P.mf c)) h := by
      rw [fX12_program_379, g_138_37 hs, Option.bind_some, rt.2.2.2.2.1, ifLe (by omega) (by omega), if_neg (by omega), g_138_58 hs, Option.bind_some, q.2.1, if_neg (show ¬ (0 : Int32) ≤ -1 by decide), R_138_43 hs, Option.bind_some, L_167 hs (by omega), Option.bind_some, rt.2.2.2.2.2.2.2.1 c (by omega)]
    rw [pre]
    unfold Pgm.tyCs
    rcases hM : P.tyMs c (P.mf (c + 1) - P.mf c) (P.mf c) with _ | p
    · rw [hM] at M
      obtain ⟨h1, e1, e2, e3, e4⟩ := M
      rw [e1]
      have R := RyI.cs hN ha h5 p3 gp gr hS hNn hL d (c + 1) (k0 + 1) h1 (by omega) (by omega) (by omega) e2
      show PgR P D num P.ms.length (P.tyCs d (c + 1)) _ _ h
      cases hty2 : P.tyCs d (c + 1) with
      | some p =>
        rw [hty2] at R
        obtain ⟨h3, f1, f2, f3⟩ := R
        exact ⟨h3, f1, f2.trans e3, e4.trans f3⟩
      | none =>
        rw [hty2] at R
        obtain ⟨h3, f1, f2, f3, f4⟩ := R
        exact ⟨h3, f1, f2, f3.trans e3, e4.trans f4⟩
    · rw [hM] at M
      exact M
/-- the rest of program(): all is typed, or the place of the first bad statement is told -/
theorem RyI.prog {S : Tks} {P : Pgm} {D : List Int32 → Prop} {num : List Int32 → Nat} {N : Nat} {h : pH} (hN : 5000 ≤ N) (ha : Acy P) (h5 : P.P5) (p3 : P.P3) (gp : GP S P) (gr : GR P) (hS : msS P.ms ≤ 1600) (hNn : msN P.ms ≤ 3200) (hL : msL P.ms ≤ 3200) (q : RyI P D num 0 h) : match P.badT with
    | some p => ∃ h', fX12_program_377 N 138 h = some (-10000 - Int32.ofNat p, h') ∧ rd h' 138 56 = rd h 138 56 ∧ Chg tyR2 h h'
    | none => ∃ h', fX12_program_377 N 138 h = some (Int32.ofNat P.2.length, h') ∧ RyI P D num P.ms.length h' ∧ rd h' 138 56 = 1 ∧ Chg tyR2 h h' := by
  have rt := q.1.1
  have hn := rt.2.2.2.2.2.1
  have hn5 : P.n = 5 + P.2.length := rfl
  have R := RyI.cs (S := S) (N := N) hN ha h5 p3 gp gr hS hNn hL P.2.length 5 N h (by omega) (Nat.le_refl _) (by omega) (by rw [Pgm.mf_5 (P := P) (c := 5) (by omega)]; exact q)
  have pre : fX12_program_377 N 138 h = fX12_program_379 N N 138 (Int32.ofNat 5) h := rfl
  rw [pre]
  have hbt : P.badT = P.tyCs P.2.length 5 := rfl
  rw [hbt]
  cases hty : P.tyCs P.2.length 5 with
  | some p => rw [hty] at R; exact R
  | none =>
    rw [hty] at R
    obtain ⟨h1, e1, e2, e3, e4⟩ := R
    have hs1 := e2.1.1.1
    have gw : Chg (fun a k => a = 138 ∧ k = 56) h1 (wr h1 138 56 1) := Chg.wr _ _ _ _ ⟨rfl, rfl⟩
    refine ⟨wr h1 138 56 1, ?_, ?_, w_138_56 hs1 _, e4.trans (gw.mono (fun a k z => by unfold tyR2; omega))⟩
    · rw [e1]
      unfold fX12_program_451
      rw [g_138_58 hs1, Option.bind_some, e2.2.1, if_pos (show (-1 : Int32) < 0 by decide), z_138_56 hs1 (Or.inr rfl), Option.bind_some, g_138_37 (hs1.wr 138 56 1), Option.bind_some, rd_wr_ne _ _ (by omega), e2.1.1.2.2.2.2.1, hn5, show (5 : Int32) = Int32.ofNat 5 from rfl, i_sub]
    · obtain ⟨q1, q2, q3, q4⟩ := e2
      have ag : ∀ {t t' v v' y y'}, AgT h1 (wr h1 138 56 1) t t' v v' y y' := fun {t t' v v' y y'} => ⟨fun a k i1 i2 _ _ => gw.2.2.1 _ _ (by omega), fun k => gw.2.2.1 _ _ (by omega), fun a m i1 _ _ => gw.2.2.1 _ _ (by omega), fun m => gw.2.2.1 _ _ (by omega)⟩
      refine ⟨q1.chg gw (fun a k z => by unfold rkA rtA at z; omega), by rw [rd_wr_ne _ _ (by omega)]; exact q2, fun j x hj hx hxm => ?_, fun j x hj hx hxm => ?_⟩
      · have := (List.getElem?_eq_some_iff.mp hx).1
        omega
      · obtain ⟨⟨n', hg'⟩, _⟩ := gp j x hx hxm
        obtain ⟨c1, c3⟩ := q4 j x hj hx hxm
        exact ⟨by rw [rd_wr_ne _ _ (by omega)]; exact c1, RTc.ag n' _ _ _ _ _ _ hg' c3 ag⟩
