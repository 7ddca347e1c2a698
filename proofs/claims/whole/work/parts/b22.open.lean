/-! ===== THE CLASS opens a method ===== -/
def Stc (P : Pgm) (S : Tks) (C : Cx) (D : List Int32 → Prop) (num : List Int32 → Nat) (g : pH) : Prop := PgF P S ∧ TyI C P D num P.ms.length g ∧ (∀ w, C.2.1 w = Int32.ofNat (num (P.1 w))) ∧ msK P.ms ≤ 3000
theorem Stc.cde {P : Pgm} {S : Tks} {C : Cx} {D : List Int32 → Prop} {num : List Int32 → Nat} {g : pH} (q : Stc P S C D num g) : Cde (msK P.ms) g := ⟨q.2.1.2.1, q.2.2.2⟩
theorem Stc.ct {P : Pgm} {S : Tks} {C : Cx} {D : List Int32 → Prop} {num : List Int32 → Nat} {g : pH} (q : Stc P S C D num g) : CT P D num g := q.2.1.1.1
theorem Stc.cp {P : Pgm} {S : Tks} {C : Cx} {D : List Int32 → Prop} {num : List Int32 → Nat} {g : pH} (q : Stc P S C D num g) : CPr P g := q.2.1.1.2.1
theorem Gro.bse {h h' g : pH} {G : Gs} {A : Nat → Nat} {L : List Nat} {nc ns : Nat} (q : Gro h h' nc ns) (hs : Sg h) (b : Bse g G A L h) : Bse g G A L h' := by
  obtain ⟨q1, q2, q3, q4, q5, q6, q7, q8, q9⟩ := q
  obtain ⟨b1, b2, b3, b4⟩ := b
  refine ⟨⟨q1, fun a k h1 h2 => (q2 a k).trans (b1.2 a k h1 h2)⟩, fun i hi => by rw [q3 _ _ (by omega) (by omega), q3 _ _ (by omega) (by omega)]; exact b2 i hi, ?_, ?_⟩
  · obtain ⟨b1, b2, b3, b4, b5, z, b6, b7, b8, b9, b10⟩ := b3
    exact ⟨(q2 _ _).trans b1, (q2 _ _).trans b2, (q2 _ _).trans b3, (q2 _ _).trans b4, fun j x h1 h2 => (q2 _ _).trans (b5 j x h1 h2), z, (q2 _ _).trans b6, b7, (q2 _ _).trans b8, b9, fun j x h1 => (q2 _ _).trans (b10 j x h1)⟩
  · obtain ⟨b1, b2, b3, b4, b5, b6, b7⟩ := b4
    have hc := hs.rows.1
    refine ⟨b1, b2, (q2 _ _).trans b3, b4, b5, (q2 _ _).trans b6, fun i hi ob hob => ?_⟩
    obtain ⟨c1, c2, c3⟩ := b7 i hi ob hob
    have e : ∀ k, rdJ h' (cR h') k = rdJ h (cR h) k := fun k => by rw [q6]; exact q3 _ _ (by omega) (by omega)
    exact ⟨(e _).trans c1, (e _).trans c2, fun j v hj => by rw [e]; exact c3 j v hj⟩
theorem FrK.gro {A : Nat → Nat} {L : List Nat} {h h' g : pH} {n nc ns : Nat} {f : Fm} {b t M X pre : Nat} (q : Gro h h' nc ns) (k : FrK A L h g n f b t M X pre) : FrK A L h' g n f b t M X pre := by
  have htop := k.top
  obtain ⟨k1, k2, k3, k4, k5, k6, k7, k8, k9, k10, k11, k12, k13, k14⟩ := k
  obtain ⟨q1, q2, q3, q4, q5, q6, q7, q8, q9⟩ := q
  refine ⟨(q2 _ _).trans k1, (q2 _ _).trans k2, by rw [q3 _ _ (by omega) (by omega)]; exact k3, k4, k5, k6, k7, k8, k9, k10, by omega, ?_, ?_, k14⟩
  · intro j v hj
    have := (List.getElem?_eq_some_iff.mp hj).1
    rw [q5 _ (by omega)]
    exact k12 j v hj
  · intro j x hj
    have := (List.getElem?_eq_some_iff.mp hj).1
    rw [q5 _ (by omega)]
    exact k13 j x hj
theorem LwC.gro {P : Pgm} {C : Cx} {U : Nat} {g : pH} {A : Nat → Nat} {L : List Nat} {h h' : pH} {nc ns : Nat} (q : Gro h h' nc ns) : ∀ {fs : List Fm} {t se : Nat}, LwC P C U g A L h fs t se → LwC P C U g A L h' fs t se
  | [], t, se, k => k
  | f :: fs, t, se, k => by
    obtain ⟨b, M, X, z, o, k1, k2, k3, k4, k5, k6⟩ := k
    have := k1.top
    refine ⟨b, M, X, z, o, k1.gro q, ?_, ⟨(q.2.1 _ _).trans k3.1, k3.2⟩, k4, k5, LwC.gro q k6⟩
    rw [q.2.2.2.2.1 _ (by omega)]
    exact k2
/-- what opening changes -/
def OpA (n : Nat) (h h' : pH) : Prop := (∀ b, sh h' b = sh h b) ∧ (∀ a k, ¬ (a = 128 ∧ (k = 6 ∨ k = 11 ∨ k = 12)) → ¬ ((a = 134 ∨ a = 135) ∧ k = n) → rd h' a k = rd h a k) ∧ ∀ a k, ¬ (a = 136 ∧ k = n) → rdJ h' a k = rdJ h a k
theorem OpA.bse {h h' g : pH} {G : Gs} {A : Nat → Nat} {L : List Nat} {n : Nat} (q : OpA n h h') (b : Bse g G A L h) : Bse g G A L h' := by
  obtain ⟨q1, q2, q3⟩ := q
  obtain ⟨b1, b2, b3, b4⟩ := b
  have hs := b1.1
  refine ⟨⟨hs.of q1, fun a k h1 h2 => (q2 a k (by omega) (by omega)).trans (b1.2 a k h1 h2)⟩, fun i hi => by rw [q3 _ _ (by omega), q3 _ _ (by omega)]; exact b2 i hi, ?_, ?_⟩
  · obtain ⟨b1, b2, b3, b4, b5, z, b6, b7, b8, b9, b10⟩ := b3
    exact ⟨(q2 _ _ (by omega) (by omega)).trans b1, (q2 _ _ (by omega) (by omega)).trans b2, (q2 _ _ (by omega) (by omega)).trans b3, (q2 _ _ (by omega) (by omega)).trans b4, fun j x h1 h2 => (q2 _ _ (by omega) (by omega)).trans (b5 j x h1 h2), z, (q2 _ _ (by omega) (by omega)).trans b6, b7, (q2 _ _ (by omega) (by omega)).trans b8, b9, fun j x h1 => (q2 _ _ (by omega) (by omega)).trans (b10 j x h1)⟩
  · obtain ⟨b1, b2, b3, b4, b5, b6, b7⟩ := b4
    have hc := hs.rows.1
    refine ⟨b1, b2, (q2 _ _ (by omega) (by omega)).trans b3, b4, b5, (q2 _ _ (by omega) (by omega)).trans b6, fun i hi ob hob => ?_⟩
    obtain ⟨c1, c2, c3⟩ := b7 i hi ob hob
    have e : ∀ k, rdJ h' (cR h') k = rdJ h (cR h) k := fun k => by rw [cR_of q1]; exact q3 _ _ (by omega)
    exact ⟨(e _).trans c1, (e _).trans c2, fun j v hj => by rw [e]; exact c3 j v hj⟩
theorem OpA.frk {A : Nat → Nat} {L : List Nat} {h h' g : pH} {n m : Nat} {f : Fm} {b t M X pre : Nat} (hs : Sg h) (q : OpA m h h') (hn : n < m) (k : FrK A L h g n f b t M X pre) : FrK A L h' g n f b t M X pre := by
  obtain ⟨k1, k2, k3, k4, k5, k6, k7, k8, k9, k10, k11, k12, k13, k14⟩ := k
  obtain ⟨q1, q2, q3⟩ := q
  have hap := hs.apart
  have e : ∀ j, rdJ h' (pileR h') j = rdJ h (pileR h) j := fun j => by rw [pileR_of q1]; exact q3 _ _ (by omega)
  refine ⟨(q2 _ _ (by omega) (by omega)).trans k1, (q2 _ _ (by omega) (by omega)).trans k2, by rw [q3 _ _ (by omega)]; exact k3, k4, k5, k6, k7, k8, k9, k10, by rw [pileN_of q1]; exact k11, ?_, ?_, k14⟩
  · intro j v hj
    rw [e]
    exact k12 j v hj
  · intro j x hj
    rw [e]
    exact k13 j x hj
theorem OpA.lw {P : Pgm} {C : Cx} {U : Nat} {g : pH} {A : Nat → Nat} {L : List Nat} {h h' : pH} {m : Nat} (hs : Sg h) (q : OpA m h h') : ∀ {fs : List Fm} {t se : Nat}, fs.length ≤ m → LwC P C U g A L h fs t se → LwC P C U g A L h' fs t se
  | [], t, se, _, k => k
  | f :: fs, t, se, hm, k => by
    rw [List.length_cons] at hm
    obtain ⟨b, M, X, z, o, k1, k2, k3, k4, k5, k6⟩ := k
    have hap := hs.apart
    refine ⟨b, M, X, z, o, OpA.frk hs q (by omega) k1, ?_, ⟨(q.2.1 _ _ (by omega) (by omega)).trans k3.1, k3.2⟩, k4, k5, OpA.lw hs q (by omega) k6⟩
    rw [pileR_of q.1, q.2.2 _ _ (by omega)]
    exact k2
theorem e5_open {h g : pH} {N n m v t M X K : Nat} (st : StC g h) (h6 : rd h 128 6 = Int32.ofNat t) (h11 : rd h 128 11 = Int32.ofNat n) (hn : n < 100) (hm : m < 1000) (hv : v + 1 ≤ t) (e34 : rd g 34 m = Int32.ofNat M) (e35 : rd g 35 m = Int32.ofNat X) (e33 : rd g 33 m = Int32.ofNat K) (hl : t - v + M + X + 1 ≤ 400000) : ∃ hg h' nc ns, fX5_openMethod N 128 (Int32.ofNat m) (Int32.ofNat v) h = some (h', nc, ns) ∧ Gro h hg nc ns ∧ t - v + M + X + 1 ≤ pileN hg ∧ OpA n hg h' ∧ rd h' 134 n = Int32.ofNat (t - v) ∧ rd h' 135 n = Int32.ofNat m ∧ rdJ h' 136 n = rdJ hg (pileR hg) (t - v - 1) ∧ rd h' 128 6 = Int32.ofNat (t - v + M) ∧ rd h' 128 11 = Int32.ofNat (n + 1) ∧ rd h' 128 12 = Int32.ofNat K := by
  have hs := st.1
  obtain ⟨hg, nc, ns, g1, g2, g3⟩ := e5_grow (N := N) hs hl
  have sg := g2.1
  have hpn := sg.pile.2.2.2.2
  have hap := sg.apart
  have r : ∀ a k, rd hg a k = rd h a k := g2.2.1
  have s1 := sg.wr 134 n (Int32.ofNat (t - v))
  have s2 := s1.wr 135 n (Int32.ofNat m)
  have s3 := s2.wrJ 136 n (rdJ hg (pileR hg) (t - v - 1))
  have s4 := s3.wr 128 11 (Int32.ofNat (n + 1))
  have s5 := s4.wr 128 6 (Int32.ofNat (t - v + M))
  have s6 := s5.wr 128 12 (Int32.ofNat K)
  refine ⟨hg, _, nc, ns, ?_, g2, g3, ⟨fun b => (sh_wr _ 128 12 (Int32.ofNat K) b).trans ((sh_wr _ 128 6 (Int32.ofNat (t - v + M)) b).trans ((sh_wr _ 128 11 (Int32.ofNat (n + 1)) b).trans ((sh_wrJ _ 136 n (rdJ hg (pileR hg) (t - v - 1)) b).trans ((sh_wr _ 135 n (Int32.ofNat m) b).trans (sh_wr hg 134 n (Int32.ofNat (t - v)) b))))), fun a k h1 h2 => ?_, fun a k h1 => ?_⟩, ?_, ?_, ?_, ?_, ?_, ?_⟩
  · have e1 : Int32.ofNat t - Int32.ofNat v = Int32.ofNat (t - v) := i_subk (by omega)
    have e2 : Int32.ofNat (t - v) - 1 = Int32.ofNat (t - v - 1) := i_subk (k := 1) (by omega)
    have e4 : Int32.ofNat (t - v) + Int32.ofNat M = Int32.ofNat (t - v + M) := (Int32.ofNat_add _ _).symm
    have e5 : Int32.ofNat (t - v + M) + Int32.ofNat X + 1 = Int32.ofNat (t - v + M + X + 1) := by rw [← Int32.ofNat_add, i_add1]
    unfold fX5_openMethod
    rw [if_pos (o_128 hs), g_128_6 hs, Option.bind_some, g_128_11 hs, Option.bind_some, h6, h11, show (100 : Int32) = Int32.ofNat 100 from rfl, if_neg (by rw [iLe (by omega) (by omega)]; omega), if_neg (i_nneg (by omega)), e1, if_pos (by rw [show (1 : Int32) = Int32.ofNat 1 from rfl, iLe (by omega) (by omega)]; omega), R_128_1 hs, Option.bind_some, R_25_9 hs, Option.bind_some, L_34 hs hm, Option.bind_some, Option.bind_some, R_25_10 hs, Option.bind_some, L_35 hs hm, Option.bind_some, st.2 34 m (by omega) (by omega), st.2 35 m (by omega) (by omega), e34, e35, e4, e5, g1, Option.bind_some]
    dsimp only
    rw [R_128_5 sg, Option.bind_some, n_p sg, Option.bind_some, if_pos (by rw [iLt (by omega) (by omega)]; omega), R_128_8 sg, Option.bind_some, g_128_11 sg, Option.bind_some, r 128 11, h11, T_134 sg hn, Option.bind_some, R_128_9 s1, Option.bind_some, g_128_11 s1, Option.bind_some, rd_wr_ne _ _ (by omega), r 128 11, h11, T_135 s1 hn, Option.bind_some, R_128_10 s2, Option.bind_some, g_128_11 s2, Option.bind_some, rd_wr_ne _ _ (by omega), rd_wr_ne _ _ (by omega), r 128 11, h11, R_128_5 s2, Option.bind_some, pileR_wr, pileR_wr, e2]
    have el := L_p s2 (i := t - v - 1) (by rw [pileN_wr, pileN_wr]; omega)
    rw [pileR_wr, pileR_wr, rdJ_wr, rdJ_wr] at el
    rw [el, Option.bind_some, T_136 s2 hn, Option.bind_some, g_128_11 s3, Option.bind_some, rd_wrJ, rd_wr_ne _ _ (by omega), rd_wr_ne _ _ (by omega), r 128 11, h11, i_add1, p_128_11 s3, Option.bind_some, p_128_6 s4, Option.bind_some, R_128_1 s5, Option.bind_some, R_25_8 s5, Option.bind_some, L_33 s5 hm, Option.bind_some, rd_wr_ne _ _ (by omega), rd_wr_ne _ _ (by omega), rd_wrJ, rd_wr_ne _ _ (by omega), rd_wr_ne _ _ (by omega), r 33 m, st.2 33 m (by omega) (by omega), e33, p_128_12 s5, Option.bind_some, Nat.zero_add, Nat.zero_add]
  · rw [rd_wr_ne _ _ (by omega), rd_wr_ne _ _ (by omega), rd_wr_ne _ _ (by omega), rd_wrJ, rd_wr_ne _ _ (by omega), rd_wr_ne _ _ (by omega)]
  · rw [rdJ_wr, rdJ_wr, rdJ_wr, rdJ_wrJ_ne _ _ (by omega), rdJ_wr, rdJ_wr]
  · rw [rd_wr_ne _ _ (by omega), rd_wr_ne _ _ (by omega), rd_wr_ne _ _ (by omega), rd_wrJ, rd_wr_ne _ _ (by omega), W_134 sg]
  · rw [rd_wr_ne _ _ (by omega), rd_wr_ne _ _ (by omega), rd_wr_ne _ _ (by omega), rd_wrJ, W_135 s1]
  · rw [rdJ_wr, rdJ_wr, rdJ_wr, W_136 s2]
  · rw [rd_wr_ne _ _ (by omega), w_128_6 s4]
  · rw [rd_wr_ne _ _ (by omega), rd_wr_ne _ _ (by omega), w_128_11 s3]
  · exact w_128_12 s5 _
