theorem sg_advance {N : Nat} {h h' : pH} (hs : Sg h) (e : fX7_advance N 46 h = some h') : Sg h' := by
  unfold fX7_advance at e
  rw [if_pos (o_46 hs), g_46_11 hs, Option.bind_some] at e
  split at e
  · rw [g_46_8 hs, Option.bind_some, R_46_0 hs, Option.bind_some, g_8_3 hs, Option.bind_some] at e
    split at e
    · obtain rfl := Option.some.inj e
      exact hs
    · have s1 := hs.wr 46 8 (rd h 46 8 + 1)
      rw [Option.bind_some, p_46_8 hs, Option.bind_some, R_46_0 s1, Option.bind_some, R_8_0 s1, Option.bind_some, g_46_8 s1, Option.bind_some] at e
      obtain ⟨t, et, e⟩ := Option.bind_eq_some_iff.mp e
      rw [p_46_9 s1, Option.bind_some] at e
      obtain rfl := Option.some.inj e
      exact s1.wr _ _ _
  · obtain rfl := Option.some.inj e
    exact hs
theorem sg_fail {N : Nat} {h h' : pH} (hs : Sg h) (e : fX7_fail N 46 h = some h') : Sg h' := by
  unfold fX7_fail at e
  rw [if_pos (o_46 hs), g_46_11 hs, Option.bind_some] at e
  split at e
  · rw [R_46_0 hs, Option.bind_some, R_8_2 hs, Option.bind_some, g_46_8 hs, Option.bind_some] at e
    obtain ⟨t, et, e⟩ := Option.bind_eq_some_iff.mp e
    have s1 := hs.wr 46 11 t
    rw [p_46_11 hs, Option.bind_some, p_46_9 s1, Option.bind_some] at e
    obtain rfl := Option.some.inj e
    exact s1.wr _ _ _
  · obtain rfl := Option.some.inj e
    exact hs
theorem sg_takeName {N : Nat} {v : Int32} {h h' : pH} (hs : Sg h) (e : fX7_takeName N 46 h = some (v, h')) : Sg h' := by
  unfold fX7_takeName at e
  rw [if_pos (o_46 hs), R_46_0 hs, Option.bind_some, R_8_1 hs, Option.bind_some, g_46_8 hs, Option.bind_some] at e
  obtain ⟨t, et, e⟩ := Option.bind_eq_some_iff.mp e
  rw [g_46_9 hs, Option.bind_some] at e
  split at e
  · obtain ⟨x, ex, e⟩ := Option.bind_eq_some_iff.mp e
    have e2 : x = h' := congrArg Prod.snd (Option.some.inj e)
    rw [← e2]
    exact sg_advance hs ex
  · obtain ⟨x, ex, e⟩ := Option.bind_eq_some_iff.mp e
    have e2 : x = h' := congrArg Prod.snd (Option.some.inj e)
    rw [← e2]
    exact sg_fail hs ex
theorem sg_takeType_66 {N : Nat} {v u : Int32} {h h' : pH} (hs : Sg h) (e : fX7_takeType_66 N 46 u h = some (v, h')) : Sg h' := by
  unfold fX7_takeType_66 at e
  split at e
  · obtain ⟨x, ex, e⟩ := Option.bind_eq_some_iff.mp e
    have e2 : x = h' := congrArg Prod.snd (Option.some.inj e)
    rw [← e2]
    exact sg_fail hs ex
  · obtain ⟨x, ex, e⟩ := Option.bind_eq_some_iff.mp e
    have e2 : x = h' := congrArg Prod.snd (Option.some.inj e)
    rw [← e2]
    exact sg_advance hs ex
theorem sg_takeType {N : Nat} {v : Int32} {h h' : pH} (hs : Sg h) (e : fX7_takeType N 46 h = some (v, h')) : Sg h' := by
  unfold fX7_takeType at e
  rw [if_pos (o_46 hs), g_46_9 hs, Option.bind_some] at e
  split at e
  · rw [R_46_0 hs, Option.bind_some, R_8_1 hs, Option.bind_some, g_46_8 hs, Option.bind_some] at e
    obtain ⟨t, et, e⟩ := Option.bind_eq_some_iff.mp e
    exact sg_takeType_66 hs e
  · rw [Option.bind_some] at e
    split at e
    · exact sg_takeType_66 hs e
    · rw [Option.bind_some] at e
      split at e
      · exact sg_takeType_66 hs e
      · rw [Option.bind_some] at e
        split at e
        · exact sg_takeType_66 hs e
        · exact sg_takeType_66 hs e
theorem mems_turn' {N n g : Nat} {h h' : pH} (hs : Sg h) (hg : g < 3100) (e11 : rd h 46 11 = -1) (h125 : rd h 46 9 ≠ 125) (e : mb1 N h = some h') : fX7_readMembers_8 N (n + 1) 46 (Int32.ofNat g) h = fX7_readMembers_8 N n 46 (Int32.ofNat (g + 1)) h' := mems_turn hs hg e11 h125 (fun v x z => z.elim (sg_takeType hs) (sg_advance hs)) (fun x v y sx ey => sg_takeName sx ey) e
theorem msP_cons (b : Mb) (bs : List Mb) : msP (b :: bs) = mbP b + msP bs := rfl
theorem msK_cons (b : Mb) (bs : List Mb) : msK (b :: bs) = mcC b + msK bs := rfl
theorem mems_run {C : Cx} {N r : Nat} (hC : NmC C) (hN : 3200 < N) : ∀ (f n g t c m p0 : Nat) (p : Int32) (h : pH), C.1.E < t + f → C.2.2 + 1 < t + n → g ≤ t → At8 C r t c m p0 0 p h → (∀ ms t', C.1.mems r f t = ok ms t' → ∃ h' p' k u, fX7_readMembers_8 N n 46 (Int32.ofNat g) h = fX7_readMembers_8 N (k + 1) 46 (Int32.ofNat u) h' ∧ u ≤ t' ∧ At8 C r t' (c + msK ms) (m + ms.length) (p0 + msP ms) 0 p' h' ∧ msC C h' ms m p0 c ∧ Chg (nA m p0 c) h h') ∧ (∀ w, C.1.mems r f t = no w → ∃ h', fX7_readMembers_8 N n 46 (Int32.ofNat g) h = some h' ∧ Er8 C w h' ∧ Chg eM h h')
  | 0, n, g, t, c, m, p0, p, h, hf, hn, hg, q => by
    have hE := q.1.le_E
    have ht := q.1.2.1
    omega
  | f + 1, n, g, t, c, m, p0, p, h, hf, hn, hg, q => by
    have hE := q.1.le_E
    have ht := q.1.2.1
    have hC3 := q.1.1.2.1
    obtain ⟨k, rfl⟩ : ∃ k, n = k + 1 := ⟨n - 1, by omega⟩
    have e0 : C.1.mems r (f + 1) t = if C.1.K t = 125 then ok [] t else (C.1.mem r t).bind fun a t' => (C.1.mems r f t').bind fun b t'' => ok (a :: b) t'' := rfl
    rw [e0]
    by_cases h125 : C.1.K t = 125
    · rw [if_pos h125]
      refine ⟨fun x t' z => ?_, fun w z => (by cases z)⟩
      obtain ⟨rfl, rfl⟩ := ok_inj z
      exact ⟨h, p, k, g, rfl, hg, q, trivial, Chg.refl _ _⟩
    · rw [if_neg h125]
      have pq := mem_run (N := N) hC hN q
      have step : ∀ h1, mb1 N h = some h1 → fX7_readMembers_8 N (k + 1) 46 (Int32.ofNat g) h = fX7_readMembers_8 N k 46 (Int32.ofNat (g + 1)) h1 := fun h1 e1 => mems_turn' q.sg (by omega) q.1.2.2.2.2.2.2.2.2.2.1 (by rw [q.1.kind]; exact h125) e1
      rcases hq : C.1.mem r t with ⟨a, t1⟩ | w
      · obtain ⟨h1, p1, e1, q1, x1, c1⟩ := pq.1 a t1 hq
        have hadv := Tks.mem_adv C.1 r _ _ _ hq
        obtain ⟨IH1, IH2⟩ := mems_run hC hN f k (g + 1) t1 (c + mcC a) (m + 1) (p0 + mbP a) p1 h1 (by omega) (by omega) (by omega) q1
        rw [Pr.bind_ok]
        refine ⟨fun x t' z => ?_, fun w z => ?_⟩
        · obtain ⟨b, t2, z1, z2⟩ := Pr.bind_eq_ok z
          obtain ⟨rfl, rfl⟩ := ok_inj z2
          obtain ⟨h2, p2, k2, u2, e2, hu2, q2, x2, c2⟩ := IH1 b t2 z1
          refine ⟨h2, p2, k2, u2, by rw [step h1 e1, e2], hu2, ?_, ⟨x1.chg (fun a y1 y2 => c2.2.2.1 _ _ (by unfold nA sA xA; omega)) (fun a k ha hk => c2.2.2.1 _ _ (by unfold nA sA xA; omega)) (fun a k y1 y2 y3 y4 => c2.2.2.1 _ _ (by unfold nA sA xA; omega)), x2⟩, c1.trans (c2.mono (fun a k z => nA_le (by omega) (by omega) (by omega) z))⟩
          rw [msK_cons, msP_cons, ← Nat.add_assoc, ← Nat.add_assoc, show m + (a :: b).length = m + 1 + b.length by show m + (b.length + 1) = _; omega]
          exact q2
        · rcases hz : C.1.mems r f t1 with ⟨b, t2⟩ | w'
          · rw [hz] at z; cases z
          · rw [hz] at z
            obtain rfl := Sum.inr.inj z
            obtain ⟨h2, e2, q2, c2⟩ := IH2 w' hz
            exact ⟨h2, by rw [step h1 e1, e2], q2, (c1.mono (fun a k z => nA_e z)).trans c2⟩
      · obtain ⟨h1, e1, q1, c1⟩ := pq.2 w hq
        rw [Pr.bind_no]
        refine ⟨fun x t' z => (by cases z), fun w z => ?_⟩
        obtain rfl := Sum.inr.inj z
        obtain ⟨k', rfl⟩ : ∃ k', k = k' + 1 := ⟨k - 1, by omega⟩
        obtain ⟨h2, e2, q2, c2⟩ := mems_8 (N := N) (n := k') (v := Int32.ofNat (g + 1)) q1 c1
        exact ⟨h2, by rw [step h1 e1, e2], q2, c2⟩
/-- a class in the tables -/
def clC (C : Cx) (h : pH) (x : Cl) (k m p c : Nat) : Prop := rd h 18 k = C.2.1 x.1 ∧ rd h 19 k = Int32.ofNat x.2.1 ∧ rd h 20 k = (match x.2.2.1 with | none => -1 | some w => C.2.1 w) ∧ rd h 21 k = -1 ∧ rd h 22 k = Int32.ofNat m ∧ rd h 23 k = Int32.ofNat (m + x.2.2.2.length) ∧ msC C h x.2.2.2 m p c
def csC (C : Cx) (h : pH) : List Cl → Nat → Nat → Nat → Nat → Prop
  | [], _, _, _, _ => True
  | x :: xs, k, m, p, c => clC C h x k m p c ∧ csC C h xs (k + 1) (m + x.2.2.2.length) (p + msP x.2.2.2) (c + msK x.2.2.2)
def csK : List Cl → Nat
  | [] => 0
  | x :: xs => msK x.2.2.2 + csK xs
theorem clC.chg {C : Cx} {h h' : pH} {x : Cl} {k m p c : Nat} (q : clC C h x k m p c) (g0 : ∀ a, 18 ≤ a → a ≤ 24 → rd h' a k = rd h a k) (g1 : ∀ a i, 26 ≤ a → a ≤ 35 → m ≤ i → i < m + x.2.2.2.length → rd h' a i = rd h a i) (g2 : ∀ a i, (a = 36 ∨ a = 37) → i < p + msP x.2.2.2 → rd h' a i = rd h a i) (g3 : ∀ a i, 39 ≤ a → a ≤ 45 → c ≤ i → i < c + msK x.2.2.2 → rd h' a i = rd h a i) : clC C h' x k m p c := by
  obtain ⟨q1, q2, q3, q4, q5, q6, q7⟩ := q
  refine ⟨?_, ?_, ?_, ?_, ?_, ?_, q7.chg g1 g2 g3⟩
  · rw [g0 18 (by omega) (by omega)]; exact q1
  · rw [g0 19 (by omega) (by omega)]; exact q2
  · rw [g0 20 (by omega) (by omega)]; exact q3
  · rw [g0 21 (by omega) (by omega)]; exact q4
  · rw [g0 22 (by omega) (by omega)]; exact q5
  · rw [g0 23 (by omega) (by omega)]; exact q6
/-- at a class: n classes told -/
def At9 (C : Cx) (r t c mm pp n : Nat) (p : Int32) (h : pH) : Prop := At8 C r t c mm pp 0 p h ∧ rd h 17 7 = Int32.ofNat (5 + n) ∧ 8 * n ≤ C.1.P t
def kA (k m p c : Nat) : Nat → Nat → Prop := fun a i => nA m p c a i ∨ (a = 17 ∧ i = 7) ∨ (18 ≤ a ∧ a ≤ 24 ∧ k ≤ i)
theorem kA_e {k m p c a i : Nat} (z : kA k m p c a i) : eM a i := by
  rcases z with z | z | z
  · exact nA_e z
  · exact Or.inr (by omega)
  · exact Or.inr (by omega)
theorem kA_le {k m p c k' m' p' c' a i : Nat} (h0 : k ≤ k') (h1 : m ≤ m') (h2 : p ≤ p') (h3 : c ≤ c') (z : kA k' m' p' c' a i) : kA k m p c a i := by
  rcases z with z | z | z
  · exact Or.inl (nA_le h1 h2 h3 z)
  · exact Or.inr (Or.inl z)
  · exact Or.inr (Or.inr (by omega))
theorem nA_17 (m p c k : Nat) : ¬ nA m p c 17 k := by unfold nA sA xA; omega
theorem Er8.addC {C : Cx} {N w : Nat} {h : pH} (q : Er8 C w h) (v1 v2 v3 v4 : Int32) : ∃ h', fX1_add N 17 v1 v2 v3 v4 h = some h' ∧ Er8 C w h' ∧ Chg eM h h' := by
  obtain ⟨q1, ⟨m, m1, m2⟩, ⟨p, p1, p2⟩, k, k1, k2⟩ := id q
  rcases Nat.lt_or_ge k 400 with z | z
  · have g := clH_chg h k v1 v2 v3 v4
    refine ⟨_, e1_add v1 v2 v3 v4 q1.sg k2 z, ⟨q1.of g (fun a k ha => by unfold clA; omega) (fun k hk => by unfold clA; omega) (by unfold clA; omega) (fun a i a1 a2 a3 => by unfold clA; omega), ⟨m, m1, ?_⟩, ⟨p, p1, ?_⟩, k + 1, by omega, (clH_rd q1.sg k v1 v2 v3 v4).2.2.2.2.2.2⟩, g.mono (fun a k z => by unfold clA at z; unfold eM; omega)⟩
    · rw [g.2.2.1 _ _ (by unfold clA; omega)]; exact m2
    · rw [g.2.2.1 _ _ (by unfold clA; omega)]; exact p2
  · obtain rfl : k = 400 := by omega
    exact ⟨h, e1_add_full v1 v2 v3 v4 q1.sg k2, q, Chg.refl _ _⟩
theorem Er8.closeLast {C : Cx} {N w : Nat} {h : pH} (q : Er8 C w h) (v : Int32) : ∃ h', fX1_closeLast N 17 v h = some h' ∧ Er8 C w h' ∧ Chg eM h h' := by
  obtain ⟨q1, ⟨m, m1, m2⟩, ⟨p, p1, p2⟩, k, k1, k2⟩ := id q
  cases k with
  | zero => exact ⟨h, e1_closeLast_0 v q1.sg k2, q, Chg.refl _ _⟩
  | succ k =>
    have g : Chg (fun a i => a = 23 ∧ i = k) h (wr h 23 k v) := Chg.wr _ _ _ _ ⟨rfl, rfl⟩
    exact ⟨_, e1_closeLast v q1.sg k2 (by omega), q.mv (q1.of g (fun a k ha => by omega) (fun k hk => by omega) (by omega) (fun a i a1 a2 a3 => by omega)) g (fun k => by omega) (by omega), g.mono (fun a k z => by unfold eM; omega)⟩
theorem mems_err {C : Cx} {N w : Nat} {h0 h : pH} (hN : 0 < N) (q : Er8 C w h) (g : Chg eM h0 h) : ∃ h', fX7_readMembers N 46 h = some h' ∧ Er8 C w h' ∧ Chg eM h0 h' := by
  obtain ⟨n, hn⟩ : ∃ n, N = n + 1 := ⟨N - 1, by omega⟩
  obtain ⟨h1, e1, a1, c1⟩ := q.1.opn (N := N) (k := 123) (by decide)
  have b1 := q.mv a1 c1 m7_25 m7_17
  obtain ⟨h3, e3, b3, c3⟩ := mems_8 (N := N) (n := n) (v := 0) b1 (g.trans (c1.mono (fun a k z => m7_eM z)))
  rw [← hn] at e3
  refine ⟨h3, ?_, b3, c3⟩
  unfold fX7_readMembers
  rw [if_pos (o_46 q.1.sg), e1, Option.bind_some, e3]
/-- a class from its members on -/
def cl1 (N : Nat) (v3 v4 v5 : Int32) (h : pH) : Option pH := (getR h 46 7 1).bind fun t3 => (getR h 46 7 2).bind fun t4 => (getI h t4 6 11).bind fun t5 => (fX1_add N t3 v4 v3 v5 t5 h).bind fun h6 => (fX7_readMembers N 46 h6).bind fun h7 => (getR h7 46 7 1).bind fun t8 => (getR h7 46 7 2).bind fun t9 => (getI h7 t9 6 11).bind fun t10 => fX1_closeLast N t8 t10 h7
theorem cl1_err {C : Cx} {N w : Nat} {v3 v4 v5 : Int32} {h0 h : pH} (hN : 0 < N) (q : Er8 C w h) (g : Chg eM h0 h) : ∃ h', cl1 N v3 v4 v5 h = some h' ∧ Er8 C w h' ∧ Chg eM h0 h' := by
  obtain ⟨h1, e1, b1, c1⟩ := q.addC (N := N) v4 v3 v5 (rd h 25 11)
  obtain ⟨h2, e2, b2, c2⟩ := mems_err (N := N) hN b1 (g.trans c1)
  obtain ⟨h3, e3, b3, c3⟩ := b2.closeLast (N := N) (rd h2 25 11)
  refine ⟨h3, ?_, b3, c2.trans c3⟩
  unfold cl1
  rw [R_46_1 q.1.sg, Option.bind_some, R_46_2 q.1.sg, Option.bind_some, g_25_11 q.1.sg, Option.bind_some, e1, Option.bind_some, e2, Option.bind_some, R_46_1 b2.1.sg, Option.bind_some, R_46_2 b2.1.sg, Option.bind_some, g_25_11 b2.1.sg, Option.bind_some, e3]
def PC9 (C : Cx) (q : Pr Cl) (c m p0 n : Nat) (h : pH) (res : Option pH) : Prop := (∀ x t', q = ok x t' → ∃ h' p', res = some h' ∧ At9 C 30 t' (c + msK x.2.2.2) (m + x.2.2.2.length) (p0 + msP x.2.2.2) (n + 1) p' h' ∧ clC C h' x (5 + n) m p0 c ∧ Chg (kA (5 + n) m p0 c) h h') ∧ (∀ w, q = no w → ∃ h', res = some h' ∧ Er8 C w h' ∧ Chg eM h h')
theorem clsB_run {C : Cx} {N t c m p0 n w pl : Nat} {p v5 : Int32} {o : Option Nat} {h : pH} (hC : NmC C) (hN : 3200 < N) (q : At8 C 30 t c m p0 0 p h) (h17 : rd h 17 7 = Int32.ofNat (5 + n)) (hn : 8 * n + 6 ≤ C.1.P t) (hv5 : v5 = (match o with | none => -1 | some w => C.2.1 w)) : PC9 C (C.1.clsB w pl o t) c m p0 n h (cl1 N (Int32.ofNat pl) (C.2.1 w) v5 h) := by
  have hE := q.1.le_E
  have hC3 := q.1.1.2.1
  have hP := q.1.1.2.2.1 t
  have g1 := clH_chg h (5 + n) (C.2.1 w) (Int32.ofNat pl) v5 (Int32.ofNat m)
  obtain ⟨r18, r19, r20, r21, r22, r23, r17⟩ := clH_rd q.sg (5 + n) (C.2.1 w) (Int32.ofNat pl) v5 (Int32.ofNat m)
  have a1 := q.1.of g1 (fun a k ha => by unfold clA; omega) (fun k hk => by unfold clA; omega) (fun k hk => by unfold clA; omega) (fun a i a1 a2 a3 => by omega)
  have q1 : At8 C 30 t c m p0 0 p (clH h (5 + n) (C.2.1 w) (Int32.ofNat pl) v5 (Int32.ofNat m)) := by
    refine ⟨a1, ?_, ?_, q.2.2.2.1, q.2.2.2.2.1, 5 + n + 1, by omega, r17⟩
    · rw [g1.2.2.1 _ _ (by unfold clA; omega)]; exact q.2.1
    · rw [g1.2.2.1 _ _ (by unfold clA; omega)]; exact q.2.2.1
  unfold cl1 Tks.clsB
  rw [R_46_1 q.sg, Option.bind_some, R_46_2 q.sg, Option.bind_some, g_25_11 q.sg, Option.bind_some, q.2.1, e1_add _ _ _ _ q.sg h17 (by omega), Option.bind_some]
  generalize clH h (5 + n) (C.2.1 w) (Int32.ofNat pl) v5 (Int32.ofNat m) = h1 at *
  have fin : ∀ w' h2, fX7_readMembers N 46 h1 = some h2 → Er8 C w' h2 → Chg eM h1 h2 → PC9 C (no w') c m p0 n h ((fX7_readMembers N 46 h1).bind fun h7 => (getR h7 46 7 1).bind fun t8 => (getR h7 46 7 2).bind fun t9 => (getI h7 t9 6 11).bind fun t10 => fX1_closeLast N t8 t10 h7) := by
    intro w' h2 e2 b2 c2
    obtain ⟨h3, e3, b3, c3⟩ := b2.closeLast (N := N) (rd h2 25 11)
    refine ⟨fun x t' z => (by cases z), fun w'' z => ?_⟩
    obtain rfl := Sum.inr.inj z
    exact ⟨h3, by rw [e2, Option.bind_some, R_46_1 b2.1.sg, Option.bind_some, R_46_2 b2.1.sg, Option.bind_some, g_25_11 b2.1.sg, Option.bind_some, e3], b3, ((g1.mono (fun a k z => by unfold clA at z; unfold eM; omega)).trans c2).trans c3⟩
  obtain ⟨nn, hnn⟩ : ∃ nn, N = nn + 1 := ⟨N - 1, by omega⟩
  by_cases hk : C.1.K t ≠ 123
  · rw [if_pos hk]
    obtain ⟨h2, e2, a2, c2⟩ := e7_open_no (N := N) (k := 123) q1.1 (Or.inl hk)
    have b2 := q1.er (by omega) a2 c2 m7_25 m7_17
    obtain ⟨h3, e3, b3, c3⟩ := mems_8 (N := N) (n := nn) (v := 0) b2 (c2.mono (fun a k z => m7_eM z))
    rw [← hnn] at e3
    refine fin _ h3 ?_ b3 c3
    unfold fX7_readMembers
    rw [if_pos (o_46 q1.sg), e2, Option.bind_some, e3]
  · rw [if_neg hk]
    have hk := Decidable.not_not.mp hk
    have htl := q1.1.lt hk (by decide) (by decide)
    have hm0 := C.1.mono t (by rw [hk]; decide)
    obtain ⟨h2, e2, a2, c2⟩ := e7_open (N := N) (r := 29) q1.1 hk (by decide) (by decide)
    have q2 : At8 C 29 (t + 1) c m p0 0 p h2 := q1.mv a2 c2 m7_25 m7_17 (by omega)
    obtain ⟨s1, s2⟩ := mems_run (N := N) hC hN (C.1.E - t) N 0 (t + 1) c m p0 p h2 (by omega) (by omega) (by omega) q2
    rcases hz : C.1.mems 29 (C.1.E - t) (t + 1) with ⟨ms, t2⟩ | w'
    · obtain ⟨h3, p3, k3, u3, e3, hu3, q3, x3, c3⟩ := s1 ms t2 hz
      have h125 := (Tks.mems_adv _ _ _ _ hz)
      obtain ⟨h4, e4, a4, c4⟩ := e7_close (N := N) q3.1 (by omega) h125.2.2 (by decide) (by decide)
      have hm2 := C.1.mono t2 (by rw [h125.2.2]; decide)
      have q4 : At8 C 30 (t2 + 1) (c + msK ms) (m + ms.length) (p0 + msP ms) 0 p3 h4 := q3.mv a4 c4 m7_25 m7_17 (by omega)
      have ht2 := q3.1.2.1
      have hPle := q3.1.1.le (show t + 1 ≤ t2 by omega) ht2
      have em : fX7_readMembers N 46 h1 = some h4 := by
        unfold fX7_readMembers
        rw [if_pos (o_46 q1.sg), e2, Option.bind_some]
        show fX7_readMembers_8 N N 46 (Int32.ofNat 0) h2 = _
        rw [e3, fX7_readMembers_8, show (3100 : Int32) = Int32.ofNat 3100 from rfl, ifLe (by decide) (by omega), if_neg (by omega), g_46_11 q3.sg, Option.bind_some, q3.1.2.2.2.2.2.2.2.2.2.1, if_pos rfl, g_46_9 q3.sg, Option.bind_some, q3.1.kind, if_pos h125.2.2]
        unfold fX7_readMembers_186
        rw [e4, Option.bind_some]
      have c14 : Chg (nA m p0 c) h1 h4 := ((c2.mono (fun a k z => m7_n z)).trans c3).trans (c4.mono (fun a k z => m7_n z))
      have r17' : rd h4 17 7 = Int32.ofNat (5 + n + 1) := by rw [c14.2.2.1 _ _ (nA_17 _ _ _ _)]; exact r17
      have g5 : Chg (fun a i => a = 23 ∧ i = 5 + n) h4 (wr h4 23 (5 + n) (Int32.ofNat (m + ms.length))) := Chg.wr _ _ _ _ ⟨rfl, rfl⟩
      have a5 := a4.of g5 (fun a k ha => by omega) (fun k hk => by omega) (fun k hk => by omega) (fun a i a1 a2 a3 => by omega)
      rw [Pr.bind_ok, em, Option.bind_some, R_46_1 a4.sg, Option.bind_some, R_46_2 a4.sg, Option.bind_some, g_25_11 a4.sg, Option.bind_some, q4.2.1, e1_closeLast _ a4.sg r17' (by omega)]
      have keep : ∀ a, 18 ≤ a → a ≤ 22 → rd (wr h4 23 (5 + n) (Int32.ofNat (m + ms.length))) a (5 + n) = rd h1 a (5 + n) := fun a y1 y2 => by rw [g5.2.2.1 _ _ (by omega), c14.2.2.1 _ _ (by unfold nA sA xA; omega)]
      refine ⟨fun x t' z => ?_, fun w'' z => (by cases z)⟩
      obtain ⟨rfl, rfl⟩ := ok_inj z
      refine ⟨_, p3, rfl, ⟨q4.mv a5 g5 (fun k => by omega) (by omega) (Nat.le_refl _), by rw [g5.2.2.1 _ _ (by omega)]; exact r17', by show 8 * (n + 1) ≤ C.1.P (t2 + 1); omega⟩, ⟨?_, ?_, ?_, ?_, ?_, W_23 a4.sg _ _, ?_⟩, ((g1.mono (fun a k z => by unfold clA at z; omega)).trans (c14.mono (fun a k z => Or.inl z))).trans (g5.mono (fun a k z => by omega))⟩
      · rw [keep 18 (by omega) (by omega)]; exact r18
      · rw [keep 19 (by omega) (by omega)]; exact r19
      · rw [keep 20 (by omega) (by omega), r20]; exact hv5
      · rw [keep 21 (by omega) (by omega)]; exact r21
      · rw [keep 22 (by omega) (by omega)]; exact r22
      · exact (x3.chg (fun a k y1 y2 y3 y4 => c4.2.2.1 _ _ (by unfold m7; omega)) (fun a k ha hk => c4.2.2.1 _ _ (by unfold m7; omega)) (fun a k y1 y2 y3 y4 => c4.2.2.1 _ _ (by unfold m7; omega))).chg (fun a k y1 y2 y3 y4 => g5.2.2.1 _ _ (by omega)) (fun a k ha hk => g5.2.2.1 _ _ (by omega)) (fun a k y1 y2 y3 y4 => g5.2.2.1 _ _ (by omega))
    · obtain ⟨h3, e3, b3, c3⟩ := s2 w' hz
      rw [Pr.bind_no]
      refine fin w' h3 ?_ b3 ((c2.mono (fun a k z => m7_eM z)).trans c3)
      unfold fX7_readMembers
      rw [if_pos (o_46 q1.sg), e2, Option.bind_some]
      exact e3
