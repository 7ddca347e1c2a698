/-! ===== THE REFERENCE'S TYPER: methods ===== -/
def Pgm.rs (P : Pgm) (m : Nat) : Nat := msS (P.ms.take m)
def Pgm.rn (P : Pgm) (m : Nat) : Nat := msN (P.ms.take m)
def Pgm.rl (P : Pgm) (m : Nat) : Nat := msL (P.ms.take m)
theorem msS_app : ∀ (l k : List Mb), msS (l ++ k) = msS l + msS k ∧ msN (l ++ k) = msN l + msN k ∧ msL (l ++ k) = msL l + msL k
  | [], k => ⟨(Nat.zero_add _).symm, (Nat.zero_add _).symm, (Nat.zero_add _).symm⟩
  | b :: l, k => by
    obtain ⟨h1, h2, h3⟩ := msS_app l k
    refine ⟨?_, ?_, ?_⟩
    · show stB (mbB b) + msS (l ++ k) = stB (mbB b) + msS l + msS k
      omega
    · show szB (mbB b) + msN (l ++ k) = szB (mbB b) + msN l + msN k
      omega
    · show lsB (mbB b) + msL (l ++ k) = lsB (mbB b) + msL l + msL k
      omega
theorem Pgm.rs_next {P : Pgm} {i j : Nat} {b : Mb} (h : i < j) (hb : P.ms[i]? = some b) : P.rs i + stB (mbB b) ≤ P.rs j ∧ P.rn i + szB (mbB b) ≤ P.rn j ∧ P.rl i + lsB (mbB b) ≤ P.rl j := by
  have e1 : P.ms.take (i + 1) = P.ms.take i ++ [b] := by rw [List.take_succ, hb]; rfl
  have e2 : P.ms.take j = P.ms.take (i + 1) ++ (P.ms.take j).drop (i + 1) := by
    have := (List.take_append_drop (i + 1) (P.ms.take j)).symm
    rw [List.take_take, show min (i + 1) j = i + 1 by omega] at this
    exact this
  have a1 := msS_app (P.ms.take i) [b]
  have a2 := msS_app (P.ms.take (i + 1)) ((P.ms.take j).drop (i + 1))
  rw [← e2] at a2
  rw [← e1] at a1
  have s1 : msS [b] = stB (mbB b) + 0 := rfl
  have s2 : msN [b] = szB (mbB b) + 0 := rfl
  have s3 : msL [b] = lsB (mbB b) + 0 := rfl
  unfold Pgm.rs Pgm.rn Pgm.rl
  omega
theorem Pgm.rs_le {P : Pgm} {i : Nat} {b : Mb} (hb : P.ms[i]? = some b) : P.rs i + stB (mbB b) ≤ msS P.ms ∧ P.rn i + szB (mbB b) ≤ msN P.ms ∧ P.rl i + lsB (mbB b) ≤ msL P.ms := by
  have hi := (List.getElem?_eq_some_iff.mp hb).1
  have h := Pgm.rs_next (j := P.ms.length) hi hb
  have e : ∀ P : Pgm, P.rs P.ms.length = msS P.ms ∧ P.rn P.ms.length = msN P.ms ∧ P.rl P.ms.length = msL P.ms := fun P => by
    unfold Pgm.rs Pgm.rn Pgm.rl
    rw [List.take_length]
    exact ⟨rfl, rfl, rfl⟩
  rw [(e P).1, (e P).2.1, (e P).2.2] at h
  exact h
/-- a method in the reference's tables, as read; and typed -/
def RCdM (P : Pgm) (D : List Int32 → Prop) (num : List Int32 → Nat) (h : pH) (m : Nat) (b : Mb) : Prop := (rd h 173 m = fsB (mbB b) (P.rs m) ∧ rd h 174 m = Int32.ofNat b.2.2.2.2.2.2) ∧ RBn P D num h (mbB b) none (P.rs m) (P.rn m) (P.rl m)
def RTM (P : Pgm) (num : List Int32 → Nat) (h : pH) (c m : Nat) (b : Mb) : Prop := rd h 173 m = fsB (mbB b) (P.rs m) ∧ RTc P num c (P.mty m) h (mbB b) (P.e0 b) none (P.rs m) (P.rn m) (P.rl m)
def rmA (s s' n n' a k : Nat) : Prop := tsA 0 s s' n n' a k ∨ (a = 138 ∧ (k = 60 ∨ k = 61))
theorem rmA.rk {s s' n n' : Nat} (a k : Nat) (h : rkA a k) : ¬ rmA s s' n n' a k := by
  intro z
  rcases z with z | z
  · exact tsA.rk a k h z
  · unfold rkA rtA at h
    omega
theorem Pgm.e0i_one {P : Pgm} {b : Mb} (hp : P.pfine b = true) : ∀ i, i ≤ mbP b → (P.e0i b i).one ∧ ∀ j, j < i → (P.e0i b i).nm j = P.1 (px b j).2
  | 0, _ => ⟨fun i j hi _ _ => absurd hi (Nat.not_lt_zero i), fun j hj => absurd hj (Nat.not_lt_zero j)⟩
  | i + 1, hi => by
    obtain ⟨h1, h2⟩ := Pgm.e0i_one hp i (by omega)
    have hl := Pgm.e0i_len P b i
    have hf : (P.e0i b i).fnd (P.1 (px b i).2) = none := by
      unfold EnvV.fnd
      rcases hn : fstN (fun k => decide ((P.e0i b i).nm k = P.1 (px b i).2)) (P.e0i b i).1.length 0 with _ | k
      · rfl
      · exfalso
        obtain ⟨k1, k2, k3, _⟩ := fstN_some hn
        have k3 := of_decide_eq_true k3
        rw [hl] at k2
        rw [h2 k (by omega)] at k3
        unfold Pgm.pfine at hp
        rcases hb : fstN (P.pbad b) (mbP b) 0 with _ | x
        · have := fstN_none hb i (Nat.zero_le _) (by omega)
          unfold Pgm.pbad at this
          have hx : (fstN (fun j => decide (P.1 (px b i).2 = P.1 (px b j).2)) i 0).isSome = false := by
            cases hy : (fstN (fun j => decide (P.1 (px b i).2 = P.1 (px b j).2)) i 0).isSome with
            | false => rfl
            | true => rw [hy, Bool.or_true] at this; cases this
          rcases hz : fstN (fun j => decide (P.1 (px b i).2 = P.1 (px b j).2)) i 0 with _ | y
          · have := fstN_none hz k (Nat.zero_le _) (by omega)
            rw [decide_eq_true k3.symm] at this
            cases this
          · rw [hz] at hx; cases hx
        · rw [hb] at hp; cases hp
    refine ⟨EnvV.one_add h1 hf, fun j hj => ?_⟩
    show ((P.e0i b i).add (P.1 (px b i).2) (P.rt (px b i).1) true).nm j = _
    by_cases hji : j < i
    · rw [← h2 j hji]
      unfold EnvV.nm EnvV.add
      rw [List.getElem?_append_left (by omega)]
    · obtain rfl : j = i := by omega
      unfold EnvV.nm EnvV.add
      rw [List.getElem?_append_right (by omega), hl, Nat.sub_self]
      rfl
theorem Pgm.e0i_no3 {P : Pgm} {m : Nat} {b : Mb} (p3 : P.P3) (hb : P.ms[m]? = some b) : ∀ i, i ≤ mbP b → (P.e0i b i).no3
  | 0, _ => fun i x hx => by cases hx
  | i + 1, hi => EnvV.no3_add (Pgm.e0i_no3 p3 hb i (by omega)) (p3.1 m b i hb (by omega))
/-- what a method comes to -/
def MtR (P : Pgm) (D : List Int32 → Prop) (num : List Int32 → Nat) (c m : Nat) (b : Mb) (o : Option Nat) (x : Option pH) (h : pH) : Prop := ∃ h', x = some h' ∧ Chg (rmA (P.rs m) (P.rs m + stB (mbB b)) (P.rn m) (P.rn m + szB (mbB b))) h h' ∧ match o with
  | some p => rd h' 138 58 = Int32.ofNat p
  | none => rd h' 138 58 = -1 ∧ RTM P num h' c m b
theorem RK.met_27 {S : Tks} {P : Pgm} {D : List Int32 → Prop} {num : List Int32 → Nat} {N c m ng : Nat} {b : Mb} (hN : 5000 ≤ N) (ha : Acy P) (hc : c < P.n) (p3 : P.P3) (h5 : P.P5) (hb : P.ms[m]? = some b) (hbm : b.1 = true) (hg : GK S ng (mbB b)) (pl : PlB (mbB b)) (hdp : dp (mbB b) ≤ 30) (hnv : mbP b + nv (mbB b) ≤ 999) (hpf : P.pfine b = true) (hS : msS P.ms ≤ 1600) (hNn : msN P.ms ≤ 3200) (hL : msL P.ms ≤ 3200) : ∀ (d i k : Nat) (h : pH), i + d = mbP b → d < k → RSt P D num c m (P.e0i b i) h → RCdM P D num h m b → MtR P D num c m b (P.chkM c b) (fX12_checkMethod_27 N k 138 (Int32.ofNat m) (Int32.ofNat (P.pf m + i)) h) h
  | 0, i, k + 1, h, hd, hk, q, cd => by
    obtain rfl : i = mbP b := by omega
    obtain ⟨⟨rt, rp, rq, rm, rl⟩, _⟩ := id q.1
    have hs := rt.1
    have hn4 := rt.n400
    have hm := (List.getElem?_eq_some_iff.mp hb).1
    have hml := rt.2.2.2.2.2.2.2.2.2.2.1
    have hpf1 := rq.2.2.1 (m + 1) (by omega)
    have hpe : P.pf (m + 1) = P.pf m + mbP b := by
      unfold Pgm.pf
      rw [List.take_succ, hb, msP_app]
      show msP (P.ms.take m) + (mbP b + 0) = _
      omega
    have hpl : P.pf (m + 1) ≤ 850 := by
      have h1 := rq.2.1
      have h2 : P.pf (m + 1) ≤ P.ps.length := by
        unfold Pgm.pf Pgm.ps
        rw [flat_len]
        have := msP_app (P.ms.take (m + 1)) (P.ms.drop (m + 1))
        rw [List.take_append_drop] at this
        omega
      omega
    obtain ⟨⟨c1, c2⟩, c3⟩ := cd
    obtain ⟨b1, b2, b3⟩ := Pgm.rs_le hb
    have B := RunR.block (S := S) (N := N) (d := 0) (j := 599) hN hg pl (RunR.all (S := S) hN ha hc p3 hm ng (mbB b) hg) q c3 (by omega) (by omega) (by omega) (by omega) (by rw [Pgm.e0i_len]; exact hnv) (by omega)
    obtain ⟨h6, e6, g6, o6⟩ := B
    have hs6 : Sg h6 := hs.of g6.1
    have hmt : P.mty m = P.rt b.2.1 := by unfold Pgm.mty; rw [hb]
    have pre : fX12_checkMethod_27 N (k + 1) 138 (Int32.ofNat m) (Int32.ofNat (P.pf m + mbP b)) h = (getI h6 138 12 58).bind fun t8 => if 0 ≤ t8 then some h6 else ((getR h6 138 12 47).bind fun t10 => (ldI h6 t10 (Int32.ofNat m)).bind fun t11 => if t11 = (3 : Int32) then some h6 else ((getI h6 138 12 66).bind fun t13 => if t13 = 0 then ((getR h6 138 12 51).bind fun t15 => (ldI h6 t15 (Int32.ofNat m)).bind fun t16 => (fX12_isBad N 138 t16 h6).bind fun h17 => some h17) else some h6)) := by
      rw [fX12_checkMethod_27, R_138_49 hs, Option.bind_some, i_add1, L_172 hs (by omega), Option.bind_some, hpf1, ifLe (by omega) (by omega), if_pos (by omega), R_138_50 hs, Option.bind_some, L_173 hs (by omega), Option.bind_some, c1, if_pos (o_138 hs), Option.bind_some, show (0 : Int32) = Int32.ofNat 0 from rfl, rcB, e6, Option.bind_some]
    rw [pre, g_138_58 hs6, Option.bind_some]
    unfold Pgm.chkM
    rw [← hmt]
    have he0 : P.e0 b = P.e0i b (mbP b) := rfl
    rw [he0]
    cases hr : P.chk c (P.mty m) (mbB b) (P.e0i b (mbP b)) with
    | inl p =>
      have hp := Pgm.chk_place ng (mbB b) _ p hg pl hr
      rw [hr] at o6
      obtain ⟨o1, _⟩ := o6
      rw [o1, if_pos (Int32.not_lt.mp (i_nneg (by omega)))]
      exact ⟨h6, rfl, g6.mono (fun a k z => Or.inl z), o1⟩
    | inr E' =>
      rw [hr] at o6
      obtain ⟨o1, o2⟩ := o6
      obtain ⟨t1, t2⟩ := o1.1.1.type hm
      have tl := tOk_lt hn4 t2
      have h3 : (Int32.ofNat (P.mty m) = 3) ↔ P.mty m = 3 := i_is3 hn4 t2
      have g61 : Chg (rmA (P.rs m) (P.rs m + stB (mbB b)) (P.rn m) (P.rn m + szB (mbB b))) h h6 := g6.mono (fun a k z => Or.inl z)
      have ok : MtR P D num c m b none (some h6) h := ⟨h6, rfl, g61, o1.2.2, by rw [g6.2.2.1 _ _ (by unfold tsA ndA; omega)]; exact c1, o2⟩
      rw [o1.2.2, if_neg (show ¬ (0 : Int32) ≤ -1 by decide), R_138_47 hs6, Option.bind_some, L_170 hs6 (by omega), Option.bind_some, t1, g_138_66 hs6, Option.bind_some, o1.1.2.1.2.2.2.1, kI_if]
      show MtR P D num c m b (if P.mty m = 3 ∨ E'.2.1 = true then none else some b.2.2.2.2.2.2) _ h
      by_cases z : P.mty m = 3
      · rw [if_pos (h3.mpr z), if_pos (Or.inl z)]
        exact ok
      · rw [if_neg (fun y => z (h3.mp y))]
        have hdd : ((P.e0i b (mbP b)).cut E').2.1 = E'.2.1 := rfl
        rw [hdd]
        by_cases y : E'.2.1 = true
        · rw [if_pos y, if_pos (Or.inr y)]
          exact ok
        · rw [if_neg y, if_neg (fun u => u.elim z y), R_138_51 hs6, Option.bind_some, L_174 hs6 (by omega), Option.bind_some, g6.2.2.1 _ _ (by unfold tsA ndA; omega), c2, e12_isBad hs6 (by rw [o1.2.2]; decide), Option.bind_some]
          exact ⟨_, rfl, g61.trans (Chg.wr _ _ _ _ (by unfold rmA tsA; omega)), w_138_58 hs6 _⟩
  | d + 1, i, k + 1, h, hd, hk, q, cd => by
    obtain ⟨⟨rt, rp, rq, rm, rl⟩, _⟩ := id q.1
    have hs := rt.1
    have hn4 := rt.n400
    have hm := (List.getElem?_eq_some_iff.mp hb).1
    have hml := rt.2.2.2.2.2.2.2.2.2.2.1
    have hi : i < mbP b := by omega
    have hpf1 := rq.2.2.1 (m + 1) (by omega)
    have hpe : P.pf (m + 1) = P.pf m + mbP b := by
      unfold Pgm.pf
      rw [List.take_succ, hb, msP_app]
      show msP (P.ms.take m) + (mbP b + 0) = _
      omega
    obtain ⟨p1, p2, p4, p5⟩ := rq.at rm hb hi
    have hpl : P.pf (m + 1) ≤ 850 := by
      have h1 := rq.2.1
      have h2 : P.pf (m + 1) ≤ P.ps.length := by
        unfold Pgm.pf Pgm.ps
        rw [flat_len]
        have := msP_app (P.ms.take (m + 1)) (P.ms.drop (m + 1))
        rw [List.take_append_drop] at this
        omega
      omega
    obtain ⟨h1, a1, a2, a3⟩ := RSc.addVariable (N := N) (s := true) hs q.1.2.1 p2 (P.rt_ok (y := (px b i).1)) (h5 m b i hb hi) (by rw [Pgm.e0i_len]; omega)
    have q1 : RSt P D num c m (P.e0i b (i + 1)) h1 := q.sc a3 (fun a k z => by unfold rkA rtA at z; omega) (by omega) (by omega) (by omega) a2 (Pgm.e0i_one hpf (i + 1) (by omega)).1 (Pgm.e0i_no3 p3 hb (i + 1) (by omega))
    have cd1 : RCdM P D num h1 m b := ⟨⟨by rw [a3.2.2.1 _ _ (by omega)]; exact cd.1.1, by rw [a3.2.2.1 _ _ (by omega)]; exact cd.1.2⟩, RBn.ag ng _ _ _ _ _ hg cd.2 ⟨fun a k i1 i2 _ _ => a3.2.2.1 _ _ (by omega), fun k => a3.2.2.1 _ _ (by omega), fun a m i1 _ _ => a3.2.2.1 _ _ (by omega), fun m => a3.2.2.1 _ _ (by omega)⟩⟩
    obtain ⟨h', e1, e2, e3⟩ := RK.met_27 hN ha hc p3 h5 hb hbm hg pl hdp hnv hpf hS hNn hL d (i + 1) k h1 (by omega) (by omega) q1 cd1
    refine ⟨h', ?_, (a3.mono (fun a k z => Or.inl (by unfold tsA; omega))).trans e2, e3⟩
    rw [fX12_checkMethod_27, R_138_49 hs, Option.bind_some, i_add1, L_172 hs (by omega), Option.bind_some, hpf1, ifLe (by omega) (by omega), if_neg (by omega), R_138_55 hs, Option.bind_some, L_177 hs (by omega), Option.bind_some, p4, R_138_54 hs, Option.bind_some, L_176 hs (by omega), Option.bind_some, p1, show (1 : Int32) = kI true from rfl, a1, Option.bind_some, show kI true = (1 : Int32) from rfl, i_add1]
    exact e1
theorem RK.method {S : Tks} {P : Pgm} {D : List Int32 → Prop} {num : List Int32 → Nat} {N c m ng : Nat} {b : Mb} {h : pH} (hN : 5000 ≤ N) (ha : Acy P) (hc : c < P.n) (p3 : P.P3) (h5 : P.P5) (hb : P.ms[m]? = some b) (hbm : b.1 = true) (hg : GK S ng (mbB b)) (pl : PlB (mbB b)) (hdp : dp (mbB b) ≤ 30) (hnv : mbP b + nv (mbB b) ≤ 999) (hpf : P.pfine b = true) (hS : msS P.ms ≤ 1600) (hNn : msN P.ms ≤ 3200) (hL : msL P.ms ≤ 3200) (q : RK P D num h) (h58 : rd h 138 58 = -1) (cd : RCdM P D num h m b) : MtR P D num c m b (P.chkM c b) (fX12_checkMethod N 138 (Int32.ofNat c) (Int32.ofNat m) h) h := by
  obtain ⟨rt, rp, rq, rm, rl⟩ := id q
  have hs := rt.1
  have hm := (List.getElem?_eq_some_iff.mp hb).1
  have hml := rt.2.2.2.2.2.2.2.2.2.2.1
  have hs1 := hs.wr 138 60 (Int32.ofNat c)
  have hs2 := hs1.wr 138 61 (Int32.ofNat m)
  have hs3 := hs2.wr 138 62 0
  have hs4 := hs3.wr 138 66 0
  have g4 : Chg (fun a k => a = 138 ∧ (k = 60 ∨ k = 61 ∨ k = 62 ∨ k = 66)) h (wr (wr (wr (wr h 138 60 (Int32.ofNat c)) 138 61 (Int32.ofNat m)) 138 62 0) 138 66 0) := ((Chg.wr _ _ _ _ (by omega)).trans (Chg.wr _ _ _ _ (by omega))).trans ((Chg.wr _ _ _ _ (by omega)).trans (Chg.wr _ _ _ _ (by omega)))
  have r60 : rd (wr (wr (wr (wr h 138 60 (Int32.ofNat c)) 138 61 (Int32.ofNat m)) 138 62 0) 138 66 0) 138 60 = Int32.ofNat c := by rw [rd_wr_ne _ _ (by omega), rd_wr_ne _ _ (by omega), rd_wr_ne _ _ (by omega), w_138_60 hs]
  have r61 : rd (wr (wr (wr (wr h 138 60 (Int32.ofNat c)) 138 61 (Int32.ofNat m)) 138 62 0) 138 66 0) 138 61 = Int32.ofNat m := by rw [rd_wr_ne _ _ (by omega), rd_wr_ne _ _ (by omega), w_138_61 hs1]
  have r62 : rd (wr (wr (wr (wr h 138 60 (Int32.ofNat c)) 138 61 (Int32.ofNat m)) 138 62 0) 138 66 0) 138 62 = Int32.ofNat 0 := by rw [rd_wr_ne _ _ (by omega), w_138_62 hs2]; rfl
  have r66 : rd (wr (wr (wr (wr h 138 60 (Int32.ofNat c)) 138 61 (Int32.ofNat m)) 138 62 0) 138 66 0) 138 66 = kI false := by rw [w_138_66 hs3]; rfl
  have pre : fX12_checkMethod N 138 (Int32.ofNat c) (Int32.ofNat m) h = fX12_checkMethod_27 N N 138 (Int32.ofNat m) (Int32.ofNat (P.pf m)) (wr (wr (wr (wr h 138 60 (Int32.ofNat c)) 138 61 (Int32.ofNat m)) 138 62 0) 138 66 0) := by
    unfold fX12_checkMethod
    rw [if_pos (o_138 hs), p_138_60 hs, Option.bind_some, p_138_61 hs1, Option.bind_some, p_138_62 hs2, Option.bind_some, z_138_66 hs3 (Or.inl rfl), Option.bind_some, R_138_49 hs4, Option.bind_some, L_172 hs4 (by omega), Option.bind_some, g4.2.2.1 _ _ (by omega), rq.2.2.1 m (by omega)]
  rw [pre]
  generalize wr (wr (wr (wr h 138 60 (Int32.ofNat c)) 138 61 (Int32.ofNat m)) 138 62 0) 138 66 0 = h4 at *
  have q4 : RSt P D num c m (P.e0i b 0) h4 := ⟨⟨q.chg g4 (fun a k z => by unfold rkA rtA at z; omega), ⟨r62, by show 0 < 1000; omega, fun i x hx => (by cases hx), r66, fun i hi => absurd hi (Nat.not_lt_zero i)⟩, r60, (Pgm.e0i_one hpf 0 (Nat.zero_le _)).1, Pgm.e0i_no3 p3 hb 0 (Nat.zero_le _)⟩, r61, by rw [g4.2.2.1 _ _ (by omega)]; exact h58⟩
  have cd4 : RCdM P D num h4 m b := ⟨⟨by rw [g4.2.2.1 _ _ (by omega)]; exact cd.1.1, by rw [g4.2.2.1 _ _ (by omega)]; exact cd.1.2⟩, RBn.ag ng _ _ _ _ _ hg cd.2 ⟨fun a k i1 i2 _ _ => g4.2.2.1 _ _ (by omega), fun k => g4.2.2.1 _ _ (by omega), fun a m i1 _ _ => g4.2.2.1 _ _ (by omega), fun m => g4.2.2.1 _ _ (by omega)⟩⟩
  obtain ⟨h', e1, e2, e3⟩ := RK.met_27 (S := S) (N := N) hN ha hc p3 h5 hb hbm hg pl hdp hnv hpf hS hNn hL (mbP b) 0 N h4 (by omega) (by omega) q4 cd4
  exact ⟨h', e1, (g4.mono (fun a k z => by unfold rmA tsA; omega)).trans e2, e3⟩
