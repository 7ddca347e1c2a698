/-! ===== THE REFERENCE opens a method ===== -/
section OPN
variable {P : Pgm} {S : Tks} {D : List Int32 → Prop} {num : List Int32 → Nat} {N : Nat} {g h : pH} {G : Gs} {i : Nat × Nat × Nat} {lo : List Vl} {ops : List (Bool × Vl)} {E : EnvV} {xs : List Xi} {ks : List Si} {fs : List Fm} {t1 t2 t3 : List It} {B O : Nat → Nat} {L : List Nat} {lb pb : Nat} {tr' : List (Nat × Nat)}
/-- what is known of the checked program -/
def Stw (P : Pgm) (S : Tks) (D : List Int32 → Prop) (num : List Int32 → Nat) (g : pH) : Prop := Str P S D num g ∧ RyI P D num P.ms.length g ∧ msS P.ms ≤ 1600 ∧ msN P.ms ≤ 3200 ∧ msL P.ms ≤ 3200
def opL (s e a k : Nat) : Prop := (a = 197 ∨ a = 198) ∧ s ≤ k ∧ k < e
def begF (N m : Nat) (h : pH) : Option pH := (getI h 138 12 93).bind fun t2 =>
  (putI h 138 12 93 (t2 + (1 : Int32))).bind fun h3 =>
  (fX12_todo N 138 (8 : Int32) (Int32.ofNat m) h3).bind fun h4 =>
  (getR h4 138 12 50).bind fun t5 =>
  (ldI h4 t5 (Int32.ofNat m)).bind fun t6 =>
  (fX12_todo N 138 (3 : Int32) t6 h4).bind fun h7 =>
  some h7
theorem beg_61 {n bs v lt m : Nat} (hn : n < 101) (hl : lt + v ≤ 90000) (hbs : bs + v ≤ 200000) : ∀ (d k f : Nat) (h1 : pH), k + d = v → d < f → StV g h1 → rd h1 194 n = Int32.ofNat lt → (∀ j, j < v → rd h1 200 (bs + j) = 0 ∨ rd h1 200 (bs + j) = 1) → ∃ h2, fX12_begin_61 N f 138 (Int32.ofNat m) (Int32.ofNat bs) (Int32.ofNat v) (Int32.ofNat n) (Int32.ofNat k) h1 = begF N m h2 ∧ Chg (opL (lt + k) (lt + v)) h1 h2 ∧ ∀ j, k ≤ j → j < v → rd h2 197 (lt + j) = rd h1 199 (bs + j) ∧ rd h2 198 (lt + j) = rd h1 200 (bs + j)
  | 0, k, f + 1, h1, hk, hf, st, h194, hm => by
    refine ⟨h1, ?_, Chg.refl _ _, fun j h2 h3 => absurd h3 (by omega)⟩
    rw [fX12_begin_61, if_pos (by rw [iLe (by omega) (by omega)]; omega)]
    rfl
  | d + 1, k, f + 1, h1, hk, hf, st, h194, hm => by
    have sg := st.1
    obtain ⟨h2, e1, e2, e3, e4⟩ := r_setL (N := N) (n := n) (lb := lt) (j := k) (x := rd h1 199 (bs + k)) (f := rd h1 200 (bs + k)) sg hn h194 (by omega) (hm k (by omega))
    have st2 : StV g h2 := st.chg e2 (fun a k z => by unfold slA; omega)
    obtain ⟨h3, f1, f2, f3⟩ := beg_61 hn hl hbs d (k + 1) f h2 (by omega) (by omega) st2 ((e2.2.2.1 _ _ (by unfold slA; omega)).trans h194) (fun j hj => by rw [e2.2.2.1 _ _ (by unfold slA; omega)]; exact hm j hj)
    refine ⟨h3, ?_, (e2.mono (fun a j z => by unfold slA at z; unfold opL; omega)).trans (f2.mono (fun a j z => by unfold opL at z ⊢; omega)), fun j h4 h5 => ?_⟩
    · rw [fX12_begin_61, if_neg (by rw [iLe (by omega) (by omega)]; omega), R_138_101 sg, Option.bind_some, ← Int32.ofNat_add, L_199 sg (by omega), Option.bind_some, R_138_102 sg, Option.bind_some, L_200 sg (by omega), Option.bind_some, e1, Option.bind_some, i_add1, f1]
    · by_cases hj : j = k
      · subst hj
        rw [f2.2.2.1 _ _ (by unfold opL; omega), f2.2.2.1 _ _ (by unfold opL; omega)]
        exact ⟨e3, e4⟩
      · obtain ⟨z1, z2⟩ := f3 j (by omega) h5
        rw [z1, z2, e2.2.2.1 _ _ (by unfold slA; omega), e2.2.2.1 _ _ (by unfold slA; omega)]
        exact ⟨rfl, rfl⟩
def opA (n lt T a k : Nat) : Prop := (a = 138 ∧ (k = 93 ∨ k = 103)) ∨ ((a = 193 ∨ a = 194 ∨ a = 195) ∧ k = n) ∨ ((a = 197 ∨ a = 198) ∧ lt ≤ k) ∨ ((a = 201 ∨ a = 202) ∧ T ≤ k)
theorem r_open {m v bs lt pt : Nat} {b : Mb} {x : Int32} {as : List Vl} {trs : List (Nat × Nat)} {T : List It} (hN : 400000 ≤ N) (hst : Stw P S D num g) (hbb : P.ms[m]? = some b) (hbm : b.1 = true) (st : StV g h) (h93 : rd h 138 93 = Int32.ofNat fs.length) (hn : fs.length < 100) (hL : LwR B L h fs lt pt trs) (hv : as.length = v) (hv9 : v ≤ 899) (hbs : bs + v ≤ 200000) (has : ∀ (j : Nat) (x : Vl), as[j]? = some x → RV B L (rd h 199 (bs + j)) (rd h 200 (bs + j)) x) (hT : TdH T h) (hTl : T.length + 2 < 400000) : ∃ h', fX12_begin N 138 x (Int32.ofNat m) (Int32.ofNat bs) (Int32.ofNat v) h = some h' ∧ Chg (opA fs.length lt T.length) h h' ∧ rd h' 193 fs.length = x ∧ rd h' 194 fs.length = Int32.ofNat lt ∧ rd h' 195 fs.length = Int32.ofNat v ∧ rd h' 138 93 = Int32.ofNat (fs.length + 1) ∧ TdH ((3, fsB (mbB b) (P.rs m)) :: (8, Int32.ofNat m) :: T) h' ∧ ∀ (j : Nat) (x : Vl), as[j]? = some x → RV B L (rd h' 197 (lt + j)) (rd h' 198 (lt + j)) x := by
  have sg := st.1
  have hbd := hL.bd
  have hml : m < P.ms.length := (List.getElem?_eq_some_iff.mp hbb).1
  have hm7 : P.ms.length ≤ 750 := hst.1.2.1.2.2.2.2.2.2.2.2.2.2.1
  obtain ⟨r173, -⟩ := hst.2.1.2.2.2 m b hml hbb hbm
  have s1 := sg.wr 194 fs.length (Int32.ofNat lt)
  have s2 := s1.wr 193 fs.length x
  have s3 := s2.wr 195 fs.length (Int32.ofNat v)
  have c3 : Chg (fun a k => (a = 193 ∨ a = 194 ∨ a = 195) ∧ k = fs.length) h (wr (wr (wr h 194 fs.length (Int32.ofNat lt)) 193 fs.length x) 195 fs.length (Int32.ofNat v)) := (Chg.wr h 194 _ _ (by omega)).trans ((Chg.wr _ 193 _ _ (by omega)).trans (Chg.wr _ 195 _ _ (by omega)))
  have st3 : StV g (wr (wr (wr h 194 fs.length (Int32.ofNat lt)) 193 fs.length x) 195 fs.length (Int32.ofNat v)) := st.chg c3 (fun a k z => by omega)
  obtain ⟨h4, e1, e2, e3⟩ := beg_61 (N := N) (n := fs.length) (bs := bs) (v := v) (lt := lt) (m := m) (by omega) (by omega) hbs v 0 N _ (by omega) (by omega) st3 (by rw [rd_wr_ne _ _ (by omega), rd_wr_ne _ _ (by omega), W_194 sg]) (fun j hj => by
    rw [c3.2.2.1 _ _ (by omega)]
    exact (has j _ (List.getElem?_eq_getElem (by omega))).f01)
  have st4 : StV g h4 := st3.chg e2 (fun a k z => by unfold opL; omega)
  have sg4 := st4.1
  have h93' : rd h4 138 93 = Int32.ofNat fs.length := by
    rw [e2.2.2.1 _ _ (by unfold opL; omega), c3.2.2.1 _ _ (by omega)]
    exact h93
  have c5 : Chg (fun a k => a = 138 ∧ k = 93) h4 (wr h4 138 93 (Int32.ofNat (fs.length + 1))) := Chg.wr h4 138 93 _ ⟨rfl, rfl⟩
  have sg5 := sg4.wr 138 93 (Int32.ofNat (fs.length + 1))
  have hT5 : TdH T (wr h4 138 93 (Int32.ofNat (fs.length + 1))) := ((hT.chg c3 (by omega) (fun a k z _ => by omega)).chg e2 (by unfold opL; omega) (fun a k z _ => by unfold opL; omega)).chg c5 (by omega) (fun a k z _ => by omega)
  obtain ⟨h6, a1, a2, a3⟩ := r_todo (N := N) (k := 8) (y := Int32.ofNat m) sg5 hT5 (by omega)
  have st6 : StV g h6 := (st4.chg c5 (fun a k z => by omega)).chg a3 (fun a k z => by unfold tdA; omega)
  obtain ⟨h7, b1, b2, b3⟩ := r_todo (N := N) (k := 3) (y := fsB (mbB b) (P.rs m)) st6.1 a2 (by rw [List.length_cons]; omega)
  have a1 : fX12_todo N 138 8 (Int32.ofNat m) (wr h4 138 93 (Int32.ofNat (fs.length + 1))) = some h6 := a1
  have b1 : fX12_todo N 138 3 (fsB (mbB b) (P.rs m)) h6 = some h7 := b1
  have eF : begF N m h4 = some h7 := by
    unfold begF
    rw [g_138_93 sg4, Option.bind_some, h93', i_add1, p_138_93 sg4, Option.bind_some, a1, Option.bind_some, R_138_50 st6.1, Option.bind_some, L_173 st6.1 (by omega), Option.bind_some, st6.2.1 173 m (by omega) (by omega), r173, b1, Option.bind_some]
  have eB : fX12_begin N 138 x (Int32.ofNat m) (Int32.ofNat bs) (Int32.ofNat v) h = fX12_begin_40 N 138 x (Int32.ofNat m) (Int32.ofNat bs) (Int32.ofNat v) (Int32.ofNat fs.length) 194 (Int32.ofNat fs.length) (Int32.ofNat lt) h := by
    unfold fX12_begin
    rw [if_pos (o_138 sg), g_138_93 sg, Option.bind_some, h93, R_138_95 sg, Option.bind_some]
    match fs, hL, hn, h93 with
    | [], hL, hn, h93 =>
      rw [if_pos (show Int32.ofNat ([] : List Fm).length = 0 from rfl), if_neg (by decide), hL.1]
      rfl
    | f :: fs', hL, hn, h93 =>
      obtain ⟨lb', pb', tr'', k1, k2, -⟩ := hL
      rw [List.length_cons] at hn ⊢
      rw [if_neg (show ¬ Int32.ofNat (fs'.length + 1) = 0 by rw [iZ (by omega)]; omega), Option.bind_some, i_sub1, L_194 sg (by omega), Option.bind_some, R_138_96 sg, Option.bind_some, L_195 sg (by omega), Option.bind_some, k1.2.2.1, k1.2.2.2.1, ← Int32.ofNat_add, ← k2, if_neg (by decide)]
  refine ⟨h7, ?_, ?_, ?_, ?_, ?_, ?_, b2, ?_⟩
  · rw [eB]
    unfold fX12_begin_40
    rw [T_194 sg (by omega), Option.bind_some, R_138_94 s1, Option.bind_some, T_193 s1 (by omega), Option.bind_some, R_138_96 s2, Option.bind_some, T_195 s2 (by omega), Option.bind_some]
    exact e1.trans eF
  · refine (c3.mono (fun a k z => by unfold opA; omega)).trans ((e2.mono (fun a k z => by unfold opL at z; unfold opA; omega)).trans ((c5.mono (fun a k z => by unfold opA; omega)).trans ((a3.mono (fun a k z => by unfold tdA at z; unfold opA; omega)).trans (b3.mono (fun a k z => by unfold tdA at z; rw [List.length_cons] at z; unfold opA; omega)))))
  all_goals (try rw [b3.2.2.1 _ _ (by unfold tdA; omega), a3.2.2.1 _ _ (by unfold tdA; omega), c5.2.2.1 _ _ (by omega), e2.2.2.1 _ _ (by unfold opL; omega)])
  · rw [rd_wr_ne _ _ (by omega), W_193 s1]
  · rw [rd_wr_ne _ _ (by omega), rd_wr_ne _ _ (by omega), W_194 sg]
  · rw [W_195 s2]
  · rw [b3.2.2.1 _ _ (by unfold tdA; omega), a3.2.2.1 _ _ (by unfold tdA; omega), w_138_93 sg4]
  · intro j y hj
    have hjl := (List.getElem?_eq_some_iff.mp hj).1
    obtain ⟨z1, z2⟩ := e3 j (by omega) (by omega)
    rw [b3.2.2.1 _ _ (by unfold tdA; omega), a3.2.2.1 _ _ (by unfold tdA; omega), c5.2.2.1 _ _ (by omega), b3.2.2.1 _ _ (by unfold tdA; omega), a3.2.2.1 _ _ (by unfold tdA; omega), c5.2.2.1 _ _ (by omega), z1, z2, c3.2.2.1 _ _ (by omega), c3.2.2.1 _ _ (by omega)]
    exact has j y hj
/-- the method is open -/
theorem open_rr {m o v lt pt : Nat} {b : Mb} {as : List Vl} {trs : List (Nat × Nat)} {T : List It} {h1 h2 : pH} (hst : Stw P S D num g) (hbb : P.ms[m]? = some b) (hbm : b.1 = true) (h70 : rd h 138 70 = 0) (h77 : rd h 138 77 = 0) (hb : RBs g G B O L h) (hn : fs.length < 100) (hL : LwR B L h fs lt pt trs) (hv : as.length = v) (hv9 : v ≤ 899) (hTf : TdF P S num g fs T) (hTr : TrH trs h) (ho : o ∈ L ∨ o < 5) (c1 : Chg (opA fs.length lt T.length) h h1) (r193 : rd h1 193 fs.length = Int32.ofNat (B o)) (r194 : rd h1 194 fs.length = Int32.ofNat lt) (r195 : rd h1 195 fs.length = Int32.ofNat v) (r93 : rd h1 138 93 = Int32.ofNat (fs.length + 1)) (rT : TdH ((3, fsB (mbB b) (P.rs m)) :: (8, Int32.ofNat m) :: T) h1) (rv : ∀ (j : Nat) (x : Vl), as[j]? = some x → RV B L (rd h1 197 (lt + j)) (rd h1 198 (lt + j)) x) (c2 : Chg (fun a k => (a = 138 ∧ k = 100) ∨ (a = 196 ∧ k = fs.length)) h1 h2) (r100 : rd h2 138 100 = Int32.ofNat pt) (r196 : rd h2 196 fs.length = Int32.ofNat pt) : RRs P S num g h2 (G, .inl (P.newF m o as :: fs)) ∧ Chg fmA h h2 := by
  have hbd := hL.bd
  have eN : P.newF m o as = ((P.ow m, m, o), as, [], P.e0 b, [], [(0, P.e0 b, mbB b, false)]) := by
    unfold Pgm.newF
    rw [hbb]
  have hml : m < P.ms.length := (List.getElem?_eq_some_iff.mp hbb).1
  obtain ⟨-, rtc⟩ := hst.2.1.2.2.2 m b hml hbb hbm
  obtain ⟨w1, w2, w3⟩ := Pgm.rs_le hbb
  obtain ⟨w4, w5, w6⟩ := hst.2.2
  have c : Chg (fun a k => opA fs.length lt T.length a k ∨ (a = 138 ∧ k = 100) ∨ (a = 196 ∧ k = fs.length)) h h2 := (c1.mono (fun a k z => Or.inl z)).trans (c2.mono (fun a k z => Or.inr z))
  have hfm : ∀ a k, (opA fs.length lt T.length a k ∨ (a = 138 ∧ k = 100) ∨ (a = 196 ∧ k = fs.length)) → fmA a k := fun a k z => by
    unfold opA at z
    unfold fmA
    omega
  have n2 : ∀ a k, ¬ ((a = 138 ∧ k = 100) ∨ (a = 196 ∧ k = fs.length)) → rd h2 a k = rd h1 a k := fun a k z => c2.2.2.1 _ _ z
  have n : ∀ a k, ¬ (opA fs.length lt T.length a k ∨ (a = 138 ∧ k = 100) ∨ (a = 196 ∧ k = fs.length)) → rd h2 a k = rd h a k := fun a k z => c.2.2.1 _ _ z
  rw [eN]
  refine ⟨⟨(3, fsB (mbB b) (P.rs m)) :: (8, Int32.ofNat m) :: T, (n _ _ (by unfold opA; omega)).trans h70, (n _ _ (by unfold opA; omega)).trans h77, B, O, L, lt + as.length, pt, trs, hb.chg c hfm, ⟨lt, pt, trs, ?_, rfl, rfl, rfl, hL.chg c (fun a k _ _ _ => by unfold opA; omega) (fun a k _ _ => by unfold opA; omega) (fun a k _ _ => by unfold opA; omega)⟩, r100, (n2 _ _ (by omega)).trans r93, ⟨[], [(3, fsB (mbB b) (P.rs m))], T, rfl, rfl, Nat.zero_le _, ⟨[(3, fsB (mbB b) (P.rs m))], [], rfl, ?_, rfl⟩, hTf⟩, rT.chg c2 (by omega) (fun a k z _ => by omega), hTr.chg c (by unfold opA; omega) (fun a k z _ => by unfold opA; omega)⟩, c.mono hfm⟩
  · refine ⟨(n2 _ _ (by omega)).trans r193, ho, (n2 _ _ (by omega)).trans r194, ?_, r196, hbd.1, hbd.2.1, ?_, Nat.zero_le _, by show 1 ≤ 104; omega, by show (if (0 : Nat) = 4 then 1 else 0) + 0 ≤ 51; rw [if_neg (by omega)]; omega, fun j x hj => ?_, fun j x hj => (by cases hj), fun x hx => (by cases hx)⟩
    · show rd h2 195 fs.length = Int32.ofNat as.length
      rw [n2 _ _ (by omega), r195, hv]
    · show as.length ≤ 899
      omega
    · rw [n2 _ _ (by omega), n2 _ _ (by omega)]
      exact rv j x hj
  · show KtI P num (P.ow m) (P.mty m) g (0, P.e0 b, mbB b, false) [(3, fsB (mbB b) (P.rs m))]
    rw [KtI_eq, if_pos rfl]
    exact ⟨none, P.rs m, P.rn m, P.rl m, ⟨rtc, by omega, by omega, by omega⟩, rfl⟩
end OPN
