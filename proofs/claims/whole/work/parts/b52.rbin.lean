/-! ===== THE REFERENCE'S STEPS: two parts ===== -/
theorem LyR.inj {hp : List Ob} {B O : Nat → Nat} : ∀ {L : List Nat} {n a : Nat}, LyR hp B O L n a → ∀ i j, i ∈ L → j ∈ L → B i = B j → i = j
  | [], n, a, _, i, j, hi, _, _ => by cases hi
  | x :: L, n, a, ⟨h1, h2, h3, h4, h5, h6⟩, i, j, hi, hj, he => by
    rcases List.mem_cons.mp hi with rfl | hi'
    · rcases List.mem_cons.mp hj with rfl | hj'
      · rfl
      · have := h6.bd j hj'
        omega
    · rcases List.mem_cons.mp hj with rfl | hj'
      · have := h6.bd i hi'
        omega
      · exact LyR.inj h6 i j hi' hj' he
theorem HpR.inj {hp : List Ob} {H : Nat} {B O : Nat → Nat} {L : List Nat} {h : pH} (q : HpR hp H B O L h) {i j : Nat} (hi : i ∈ L ∨ i < 5) (hj : j ∈ L ∨ j < 5) (he : B i = B j) : i = j := by
  obtain ⟨b1, b2, -⟩ := q
  by_cases h5 : i < 5
  · have e1 := (b1 i h5).1
    by_cases h6 : j < 5
    · have e2 := (b1 j h6).1
      omega
    · have := b2.bd j (hj.resolve_right h6)
      omega
  · have d1 := b2.bd i (hi.resolve_right h5)
    by_cases h6 : j < 5
    · have e2 := (b1 j h6).1
      omega
    · exact b2.inj i j (hi.resolve_right h5) (hj.resolve_right h6) he
theorem RV.eq {hp : List Ob} {H : Nat} {B O : Nat → Nat} {L : List Nat} {h : pH} {x f y f' : Int32} {v w : Vl} (q : HpR hp H B O L h) (hv : RV B L x f v) (hw : RV B L y f' w) (hs : (∃ n m, v = .inl n ∧ w = .inl m) ∨ ∃ a b, v = .inr a ∧ w = .inr b) : (x = y) = (v = w) := by
  have inj : ∀ (i : Nat), (i ∈ L ∨ i < 5) → B i < 5005 := fun i hi => (q.at hi).1
  rcases hs with ⟨n, m, rfl, rfl⟩ | ⟨a, b, rfl, rfl⟩
  · obtain ⟨rfl, -⟩ := hv
    obtain ⟨rfl, -⟩ := hw
    exact propext ⟨fun z => by rw [z], fun z => by injection z⟩
  · rcases a with _ | i
    · obtain ⟨rfl, -⟩ := hv
      rcases b with _ | j
      · obtain ⟨rfl, -⟩ := hw
        exact propext ⟨fun _ => rfl, fun _ => rfl⟩
      · obtain ⟨rfl, -, h2⟩ := hw
        refine propext ⟨fun z => ?_, fun z => by cases z⟩
        exact absurd (show (0 : Int32) ≤ -1 by rw [z]; exact i_nn0 (by have := inj j h2; omega)) (by decide)
    · obtain ⟨rfl, -, h1⟩ := hv
      rcases b with _ | j
      · obtain ⟨rfl, -⟩ := hw
        refine propext ⟨fun z => ?_, fun z => by cases z⟩
        exact absurd (show (0 : Int32) ≤ -1 by rw [← z]; exact i_nn0 (by have := inj i h1; omega)) (by decide)
      · obtain ⟨rfl, -, h2⟩ := hw
        have l1 := inj i h1
        have l2 := inj j h2
        refine propext ⟨fun z => ?_, fun z => ?_⟩
        · rw [iEq (by omega) (by omega)] at z
          rw [q.inj h1 h2 z]
        · injection z with z
          rw [Option.some.inj z]
section WB
variable {P : Pgm} {S : Tks} {D : List Int32 → Prop} {num : List Int32 → Nat} {N : Nat} {g h : pH} {G : Gs} {i : Nat × Nat × Nat} {lo : List Vl} {ops : List (Bool × Vl)} {E : EnvV} {xs : List Xi} {ks : List Si} {fs : List Fm} {t1 t2 t3 : List It} {B O : Nat → Nat} {L : List Nat} {lb pb : Nat} {tr' : List (Nat × Nat)}
theorem ROp.tp2 {y x : Vl} {ops' : List (Bool × Vl)} (q : ROp P S num g h G i lo ((false, y) :: (false, x) :: ops') E xs ks fs t1 t2 t3 B O L lb pb tr') (hfs : fs.length + 1 ≤ 100) : rd h 138 100 = Int32.ofNat (pb + (um ops').length + 2) ∧ RV B L (rd h 199 (pb + (um ops').length + 1)) (rd h 200 (pb + (um ops').length + 1)) y ∧ RV B L (rd h 199 (pb + (um ops').length)) (rd h 200 (pb + (um ops').length)) x ∧ pb + (um ops').length + 2 < 200000 ∧ ops'.length + 2 ≤ 1999 := by
  have h100 := q.2.2.2.1
  have hpb : pb ≤ 1999 * fs.length := q.2.1.2.2.2.2.2.2.1
  have hol : ops'.length + 1 + 1 ≤ 1999 := q.2.1.2.2.2.2.2.2.2.2.1
  have hul := um_le ops'
  have eu : (um ((false, y) :: (false, x) :: ops')).length = (um ops').length + 1 + 1 := rfl
  have tp := q.top (j := 0) (v := y) rfl
  have tp' := q.top (j := 1) (v := x) rfl
  rw [eu, show pb + ((um ops').length + 1 + 1) - 1 - 0 = pb + (um ops').length + 1 by omega] at tp
  rw [eu, show pb + ((um ops').length + 1 + 1) - 1 - 1 = pb + (um ops').length by omega] at tp'
  rw [eu] at h100
  exact ⟨h100, tp, tp', by omega, hol⟩
theorem ROp.rep2 {y x v : Vl} {w f : Int32} {ops' : List (Bool × Vl)} (q : ROp P S num g h G i lo ((false, y) :: (false, x) :: ops') E xs ks fs t1 t2 t3 B O L lb pb tr') (hfs : fs.length + 1 ≤ 100) (hv : RV B L w f v) : ∃ h2, fX12_push N 138 w f (wr h 138 100 (Int32.ofNat (pb + (um ops').length))) = some h2 ∧ RRs P S num g h2 (G, .inl ((i, lo, (false, v) :: ops', E, xs, ks) :: fs)) ∧ Chg fmA h h2 := by
  obtain ⟨a1, a2, a3, a4, a5⟩ := q.tp2 hfs
  obtain ⟨h2, p1, p2, p3⟩ := ROp.val (N := N) (j := 2) (A := fun a k => a = 138 ∧ k = 100) (xs := xs) (h1 := wr h 138 100 (Int32.ofNat (pb + (um ops').length))) q (Chg.wr h 138 100 _ ⟨rfl, rfl⟩) (fun _ _ z => Or.inl z) (w_138_100 q.st.1 _) hv q.2.2.2.2.2.2.2.1 (show ops'.length + 1 ≤ 1999 by omega) hfs
  exact ⟨h2, p1, p2.rrs, p3⟩
theorem wkd_v {k : Nat} {x y : Vl} {a b : Int32} (hk1 : 19 ≤ k) (hk2 : k ≤ 27) (hxy : k ≤ 25 → x = .inl a ∧ y = .inl b) (heq : (a = b) = (x = y)) : (∀ v, sgW k x y = .inl v → ∃ r, fX12_worked N (sgC k) a b h = some (r, h) ∧ v = .inl r) ∧ (∀ n, sgW k x y = .inr n → n = 2 ∧ b = 0 ∧ (k = 20 ∨ k = 21)) ∧ ((∃ v, sgW k x y = .inl v) → (k = 20 ∨ k = 21) → b ≠ 0) := by
  have hk : k = 19 ∨ k = 20 ∨ k = 21 ∨ k = 22 ∨ k = 23 ∨ k = 24 ∨ k = 25 ∨ k = 26 ∨ k = 27 := by omega
  have bvT : ∀ p : Prop, [Decidable p] → (bV (decide p)) = .inl (if p then 1 else 0) := fun p _ => by
    by_cases hp : p
    · rw [if_pos hp, decide_eq_true hp]; rfl
    · rw [if_neg hp, decide_eq_false hp]; rfl
  rcases hk with rfl | rfl | rfl | rfl | rfl | rfl | rfl | rfl | rfl
  · obtain ⟨rfl, rfl⟩ := hxy (by omega)
    exact ⟨fun v hv => ⟨_, rfl, (Sum.inl.inj hv).symm⟩, fun n hn => (by cases hn), fun _ z => by omega⟩
  · obtain ⟨rfl, rfl⟩ := hxy (by omega)
    have e : sgW 20 (.inl a) (.inl b) = if b = 0 then .inr 2 else .inl (.inl (a / b)) := rfl
    have e2 : fX12_worked N (sgC 20) a b h = if b = 0 then none else some (a / b, h) := rfl
    rw [e, e2]
    by_cases hb : b = 0
    · rw [if_pos hb, if_pos hb]
      exact ⟨fun v hv => (by cases hv), fun n hn => ⟨(Sum.inr.inj hn).symm, hb, Or.inl rfl⟩, fun ⟨v, hv⟩ => (by cases hv)⟩
    · rw [if_neg hb, if_neg hb]
      exact ⟨fun v hv => ⟨_, rfl, (Sum.inl.inj hv).symm⟩, fun n hn => (by cases hn), fun _ _ => hb⟩
  · obtain ⟨rfl, rfl⟩ := hxy (by omega)
    have e : sgW 21 (.inl a) (.inl b) = if b = 0 then .inr 2 else .inl (.inl (a - a / b * b)) := rfl
    have e2 : fX12_worked N (sgC 21) a b h = if b = 0 then none else some (a - a / b * b, h) := rfl
    rw [e, e2]
    by_cases hb : b = 0
    · rw [if_pos hb, if_pos hb]
      exact ⟨fun v hv => (by cases hv), fun n hn => ⟨(Sum.inr.inj hn).symm, hb, Or.inr rfl⟩, fun ⟨v, hv⟩ => (by cases hv)⟩
    · rw [if_neg hb, if_neg hb]
      exact ⟨fun v hv => ⟨_, rfl, (Sum.inl.inj hv).symm⟩, fun n hn => (by cases hn), fun _ _ => hb⟩
  · obtain ⟨rfl, rfl⟩ := hxy (by omega)
    exact ⟨fun v hv => ⟨_, rfl, (Sum.inl.inj hv).symm⟩, fun n hn => (by cases hn), fun _ z => by omega⟩
  · obtain ⟨rfl, rfl⟩ := hxy (by omega)
    exact ⟨fun v hv => ⟨_, rfl, (Sum.inl.inj hv).symm⟩, fun n hn => (by cases hn), fun _ z => by omega⟩
  · obtain ⟨rfl, rfl⟩ := hxy (by omega)
    have e : sgW 24 (.inl a) (.inl b) = .inl (bV (decide (a < b))) := rfl
    have e2 : fX12_worked N (sgC 24) a b h = if b ≤ a then some (0, h) else some (1, h) := rfl
    rw [e, e2, bvT]
    refine ⟨fun v hv => ?_, fun n hn => (by cases hn), fun _ z => by omega⟩
    by_cases hb : b ≤ a
    · rw [if_pos hb]
      rw [if_neg (Int32.not_lt.mpr hb)] at hv
      exact ⟨_, rfl, (Sum.inl.inj hv).symm⟩
    · rw [if_neg hb]
      rw [if_pos (Int32.not_le.mp hb)] at hv
      exact ⟨_, rfl, (Sum.inl.inj hv).symm⟩
  · obtain ⟨rfl, rfl⟩ := hxy (by omega)
    have e : sgW 25 (.inl a) (.inl b) = .inl (bV (decide (a ≤ b))) := rfl
    have e2 : fX12_worked N (sgC 25) a b h = if b < a then some (0, h) else some (1, h) := rfl
    rw [e, e2, bvT]
    refine ⟨fun v hv => ?_, fun n hn => (by cases hn), fun _ z => by omega⟩
    by_cases hb : b < a
    · rw [if_pos hb]
      rw [if_neg (Int32.not_le.mpr hb)] at hv
      exact ⟨_, rfl, (Sum.inl.inj hv).symm⟩
    · rw [if_neg hb]
      rw [if_pos (Int32.not_lt.mp hb)] at hv
      exact ⟨_, rfl, (Sum.inl.inj hv).symm⟩
  · have e : sgW 26 x y = .inl (bV (decide (x = y))) := rfl
    have e2 : fX12_worked N (sgC 26) a b h = if a = b then some (1, h) else some (0, h) := rfl
    rw [e, e2, bvT]
    refine ⟨fun v hv => ?_, fun n hn => (by cases hn), fun _ z => by omega⟩
    by_cases hb : a = b
    · rw [if_pos hb]
      rw [if_pos (heq.mp hb)] at hv
      exact ⟨_, rfl, (Sum.inl.inj hv).symm⟩
    · rw [if_neg hb]
      rw [if_neg (fun z => hb (heq.mpr z))] at hv
      exact ⟨_, rfl, (Sum.inl.inj hv).symm⟩
  · have e : sgW 27 x y = .inl (bV (decide (x ≠ y))) := rfl
    have e2 : fX12_worked N (sgC 27) a b h = if a = b then some (0, h) else some (1, h) := rfl
    rw [e, e2, bvT]
    refine ⟨fun v hv => ?_, fun n hn => (by cases hn), fun _ z => by omega⟩
    by_cases hb : a = b
    · rw [if_pos hb]
      rw [if_neg (fun z => z (heq.mp hb))] at hv
      exact ⟨_, rfl, (Sum.inl.inj hv).symm⟩
    · rw [if_neg hb]
      rw [if_pos (fun z => hb (heq.mpr z))] at hv
      exact ⟨_, rfl, (Sum.inl.inj hv).symm⟩
end WB
