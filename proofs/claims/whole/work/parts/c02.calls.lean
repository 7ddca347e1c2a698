/-! ===== THE CALLS: end, heap, input; what else stays ===== -/
theorem CRs.inp {P : Pgm} {C : Cx} {U : Nat} {g h h' : pH} {σ : Mst} {pc : Nat} {inp : List Int32} (q : CRs P C U g h σ pc) (sg : Sg h) (es : ∀ b, sh h' b = sh h b) (e : ∀ a k, 17 ≤ a → a ≤ 137 → a ≠ 126 → a ≠ 127 → rd h' a k = rd h a k) (ej : ∀ a k, rdJ h' a k = rdJ h a k) (hin : InC inp h') : CRs P C U g h' ((σ.1.1, inp, σ.1.2.2), σ.2) pc := by
  have st : StC g h → StC g h' := fun b => ⟨sg.of es, fun a k h1 h2 => (e a k h1 (by omega) (by omega) (by omega)).trans (b.2 a k h1 h2)⟩
  have ft : FtC h → FtC h' := fun b i hi => by rw [ej, ej]; exact b i hi
  have cn : ∀ G : Gs, CnC G h → CnC (G.1, inp, G.2.2) h' := fun G b => by
    obtain ⟨b1, b2, b3, b4, b5, -⟩ := b
    exact ⟨(e _ _ (by omega) (by omega) (by omega) (by omega)).trans b1, (e _ _ (by omega) (by omega) (by omega) (by omega)).trans b2, (e _ _ (by omega) (by omega) (by omega) (by omega)).trans b3, (e _ _ (by omega) (by omega) (by omega) (by omega)).trans b4, fun j x h1 h2 => (e _ _ (by omega) (by omega) (by omega) (by omega)).trans (b5 j x h1 h2), hin⟩
  match σ, q with
  | (G, .inl []), q => exact q.elim
  | (G, .inr (k, a)), q =>
    obtain ⟨q1, q2, q3, q4, q5, q6, q7⟩ := q
    exact ⟨st q1, ft q2, cn G q3, (e _ _ (by omega) (by omega) (by omega) (by omega)).trans q4, (e _ _ (by omega) (by omega) (by omega) (by omega)).trans q5, q6, q7⟩
  | (G, .inl (f :: fs)), q =>
    obtain ⟨t, h13, h14, A, L, hb, b, M, X, o, k1, k2, k3, k4, k5, k6⟩ := q
    have pg : PgA fs.length 500000 h h' := ⟨es, fun k => ⟨e _ _ (by omega) (by omega) (by omega) (by omega), e _ _ (by omega) (by omega) (by omega) (by omega), ej _ _⟩, fun k _ => e _ _ (by omega) (by omega) (by omega) (by omega), fun k _ => ej _ _⟩
    have hpn := sg.pile.2.2.2.2
    have htop := k1.top
    have k9 := k1.2.2.2.2.2.2.2.2.1
    have hb1 := k1.2.2.2.1
    refine ⟨t, (e _ _ (by omega) (by omega) (by omega) (by omega)).trans h13, (e _ _ (by omega) (by omega) (by omega) (by omega)).trans h14, A, L, ⟨st hb.1, ft hb.2.1, cn G hb.2.2.1, ?_⟩, b, M, X, o, k1.ag pg (by omega), k2, k3.ag pg (Nat.le_refl _) (by omega), (e _ _ (by omega) (by omega) (by omega) (by omega)).trans k4, (e _ _ (by omega) (by omega) (by omega) (by omega)).trans k5, (e _ _ (by omega) (by omega) (by omega) (by omega)).trans k6⟩
    obtain ⟨p1, p2, p3, p4, p5, p6, p7⟩ := hb.2.2.2
    refine ⟨p1, p2, (e _ _ (by omega) (by omega) (by omega) (by omega)).trans p3, p4, p5, (e _ _ (by omega) (by omega) (by omega) (by omega)).trans p6, fun i hi ob hob => ?_⟩
    obtain ⟨c1, c2, c3⟩ := p7 i hi ob hob
    rw [cR_of es]
    exact ⟨by rw [ej]; exact c1, by rw [ej]; exact c2, fun j v hj => by rw [ej]; exact c3 j v hj⟩
def refE (h h' : pH) : Prop := ∀ a k, (144 ≤ a ∧ a ≤ 204 ∧ a ≠ 184) ∨ (a = 138 ∧ 15 ≤ k ∧ k ≠ 71 ∧ k ≠ 80) → rd h' a k = rd h a k
theorem FrR.rE {B : Nat → Nat} {L : List Nat} {h h' : pH} {n : Nat} {f : Fm} {lb pb : Nat} (e : refE h h') (q : FrR B L h n f lb pb) : FrR B L h' n f lb pb := by
  obtain ⟨k1, k2, k3, k4, k5, k6, k7, k8, k9, k10, k11, k12, k13, k14⟩ := q
  exact ⟨(e _ _ (by omega)).trans k1, k2, (e _ _ (by omega)).trans k3, (e _ _ (by omega)).trans k4, (e _ _ (by omega)).trans k5, k6, k7, k8, k9, k10, k11, fun j v hj => by rw [e _ _ (by omega), e _ _ (by omega)]; exact k12 j v hj, fun j v hj => by rw [e _ _ (by omega), e _ _ (by omega)]; exact k13 j v hj, k14⟩
theorem LwR.rE {B : Nat → Nat} {L : List Nat} {h h' : pH} (e : refE h h') : ∀ {fs : List Fm} {lt pt : Nat} {trs : List (Nat × Nat)}, LwR B L h fs lt pt trs → LwR B L h' fs lt pt trs
  | [], _, _, _, q => q
  | f :: fs, lt, pt, trs, q => by
    obtain ⟨lb, pb, tr', F, e1, e2, e3, hL⟩ := q
    exact ⟨lb, pb, tr', F.rE e, e1, e2, e3, LwR.rE e hL⟩
theorem RRt.inp {P : Pgm} {S : Tks} {num : List Int32 → Nat} {g h h' : pH} {σ : Mst} {inp : List Int32} (q : RRt P S num g h σ) (sg : Sg h') (e : refE h h') (hin : InR inp h') : RRt P S num g h' ((σ.1.1, inp, σ.1.2.2), σ.2) := by
  have st : StV g h → StV g h' := fun b => ⟨sg, fun a k h1 h2 => (e a k (by omega)).trans (b.2.1 a k h1 h2), fun k h1 h2 => (e _ _ (by omega)).trans (b.2.2 k h1 h2)⟩
  have cn : ∀ G : Gs, CnR G h → CnR (G.1, inp, G.2.2) h' := fun G b => by
    obtain ⟨b1, b2, b3, b4, b5, -⟩ := b
    exact ⟨(e _ _ (by omega)).trans b1, (e _ _ (by omega)).trans b2, (e _ _ (by omega)).trans b3, (e _ _ (by omega)).trans b4, fun j x h1 h2 => (e _ _ (by omega)).trans (b5 j x h1 h2), hin.1, hin.2.1, hin.2.2⟩
  match σ, q with
  | (G, .inr (k, a)), q =>
    obtain ⟨q1, q2, q3, q4, q5, q6, q7, q8⟩ := q
    exact ⟨st q1, cn G q2, (e _ _ (by omega)).trans q3, (e _ _ (by omega)).trans q4, (e _ _ (by omega)).trans q5, (e _ _ (by omega)).trans q6, (e _ _ (by omega)).trans q7, q8⟩
  | (G, .inl fs), q =>
    obtain ⟨t, ⟨q1, q2, B, O, L, lt, pt, trs, ⟨b1, b2, b3, b4⟩, q4, q5, q6, q7, q8⟩, htd, hl⟩ := q
    refine ⟨t, ⟨(e _ _ (by omega)).trans q1, (e _ _ (by omega)).trans q2, B, O, L, lt, pt, trs, ⟨st b1, cn G b2, (e _ _ (by omega)).trans b3, ?_⟩, q4.rE e, (e _ _ (by omega)).trans q5, (e _ _ (by omega)).trans q6, ⟨(e _ _ (by omega)).trans q7.1, fun j it hj => by rw [e _ _ (by omega), e _ _ (by omega)]; exact q7.2 j it hj⟩, ⟨(e _ _ (by omega)).trans q8.1, fun j it hj => by rw [e _ _ (by omega), e _ _ (by omega)]; exact q8.2 j it hj⟩⟩, htd, hl⟩
    obtain ⟨p1, p2, p3, p4, p5, p6, p7, p8, p9⟩ := b4
    exact ⟨fun i hi => ⟨(p1 i hi).1, (p1 i hi).2.1, (p1 i hi).2.2.of (fun a k z => e _ _ (by omega))⟩, p2, (e _ _ (by omega)).trans p3, (e _ _ (by omega)).trans p4, (e _ _ (by omega)).trans p5, p6, p7, (e _ _ (by omega)).trans p8, fun i hi => (p9 i hi).of (fun a k z => e _ _ (by omega))⟩
theorem sil_any {P : Pgm} {G G' : Gs} {f : Fm} {fs : List Fm} (h : P.sil G f fs = none) : P.sil G' f fs = none := by
  obtain ⟨i, lo, ops, E, xs, ks⟩ := f
  match xs, ks, h with
  | .inl (k, v, w, z, l) :: xs, ks, h =>
    have h : (if k = 50 then some _ else if k = 51 then some _ else none : Option Mst) = none := h
    show (if k = 50 then some _ else if k = 51 then some _ else none : Option Mst) = none
    by_cases h1 : k = 50
    · rw [if_pos h1] at h; cases h
    · rw [if_neg h1] at h ⊢
      by_cases h2 : k = 51
      · rw [if_pos h2] at h; cases h
      · rw [if_neg h2]
  | .inr _ :: xs, ks, h => rfl
  | [], [], h => cases h
  | [], (k, E', b, z) :: ks, h =>
    unfold Pgm.sil at h ⊢
    dsimp only at h ⊢
    by_cases c0 : k = 0
    · rw [if_pos c0] at h; cases h
    rw [if_neg c0] at h ⊢
    by_cases c2 : k = 2
    · rw [if_pos c2] at h; cases h
    rw [if_neg c2] at h ⊢
    by_cases c3 : k = 3
    · rw [if_pos c3] at h; cases h
    rw [if_neg c3] at h ⊢
    by_cases c4 : k = 4
    · rw [if_pos c4] at h; cases h
    rw [if_neg c4] at h ⊢
    by_cases c5 : k = 5
    · rw [if_pos c5] at h; cases h
    rw [if_neg c5]
theorem Sls_any {P : Pgm} {σ : Mst} {inp : List Int32} (h : P.Sls 0 σ σ) : P.Sls 0 ((σ.1.1, inp, σ.1.2.2), σ.2) ((σ.1.1, inp, σ.1.2.2), σ.2) := by
  match σ, h with
  | (G, .inl (f :: fs)), h => exact ⟨rfl, sil_any h.2⟩
  | (G, .inl []), h => exact ⟨rfl, trivial⟩
  | (G, .inr x), h => exact ⟨rfl, trivial⟩
theorem GdM_any {P : Pgm} {S : Tks} {σ : Mst} {inp : List Int32} (h : GdM P S σ) : GdM P S ((σ.1.1, inp, σ.1.2.2), σ.2) := by
  match σ, h with
  | (G, .inl fs), h => exact h
  | (G, .inr x), h => exact h
section EH
variable {N : Nat}
theorem i_le_cl {v : Int32} {L : Nat} (hL : L < 2 ^ 31) (h0 : ¬ v < 0) : (v ≤ Int32.ofNat L ↔ v.toNatClampNeg ≤ L) := by
  obtain ⟨d1, d2⟩ := i_ncl h0
  generalize v.toNatClampNeg = m at *
  subst d1
  rw [iLe d2 (by omega)]
theorem end_both {L : Nat} {v : Int32} {h : pH} (sg : Sg h) (t : TpI L h) : ∃ r h1 h2 L', fX11_end N 6 v h = some (r, h1) ∧ fX12_end N 138 v h1 = some (r, h2) ∧ TpI L' h2 ∧ Chg (fun a k => (a = 6 ∧ k = 8) ∨ (a = 138 ∧ k = 1)) h h2 := by
  obtain ⟨t1, t2, t3, t4⟩ := t
  have hin : ∀ h1 : pH, fX12_isIn N v.toInt64 0 (Int32.ofNat L).toInt64 h1 = some (if v < 0 ∨ Int32.ofNat L < v then 0 else 1, h1) := fun h1 => isIn_eq N v 0 (Int32.ofNat L) h1
  by_cases h0 : v < 0
  · refine ⟨-1, h, h, L, ?_, ?_, ⟨t1, t2, t3, t4⟩, Chg.refl _ _⟩
    · unfold fX11_end
      rw [if_pos (o_6 sg), if_pos h0]
    · unfold fX12_end
      rw [if_pos (o_138 sg), g_138_1 sg, Option.bind_some, t2, hin, Option.bind_some, if_pos (Or.inl h0), if_pos rfl]
  · by_cases hv : v ≤ Int32.ofNat L
    · have s1 := sg.wr 6 8 v
      have hm := (i_le_cl (by omega) h0).mp hv
      have hvm := (i_ncl h0).1
      refine ⟨v, wr h 6 8 v, wr (wr h 6 8 v) 138 1 v, v.toNatClampNeg, ?_, ?_, ⟨?_, ?_, by omega, fun i hi => ?_⟩, (Chg.wr h 6 8 _ (by omega)).trans (Chg.wr _ 138 1 _ (by omega))⟩
      · unfold fX11_end
        rw [if_pos (o_6 sg), if_neg h0, g_6_8 sg, Option.bind_some, t1, if_pos hv, p_6_8 sg, Option.bind_some]
      · unfold fX12_end
        rw [if_pos (o_138 s1), g_138_1 s1, Option.bind_some, rd_wr_ne _ _ (by omega), t2, hin, Option.bind_some, if_neg (show ¬ (v < 0 ∨ Int32.ofNat L < v) from fun z => z.elim h0 (Int32.not_lt.mpr hv))]
        dsimp only
        rw [if_neg (by decide), p_138_1 s1, Option.bind_some]
      · rw [rd_wr_ne _ _ (by omega), w_6_8 sg]; exact hvm
      · rw [w_138_1 s1]; exact hvm
      · rw [rd_wr_ne _ _ (by omega), rd_wr_ne _ _ (by omega), rd_wr_ne _ _ (by omega), rd_wr_ne _ _ (by omega)]
        exact t4 i (by omega)
    · refine ⟨-1, h, h, L, ?_, ?_, ⟨t1, t2, t3, t4⟩, Chg.refl _ _⟩
      · unfold fX11_end
        rw [if_pos (o_6 sg), if_neg h0, g_6_8 sg, Option.bind_some, t1, if_neg hv]
      · unfold fX12_end
        rw [if_pos (o_138 sg), g_138_1 sg, Option.bind_some, t2, hin, Option.bind_some, if_pos (Or.inr (Int32.not_le.mp hv)), if_pos rfl]
/-- the room that is told -/
def HsI (H : Nat) (h : pH) : Prop := rd h 6 9 = Int32.ofNat H ∧ rd h 138 71 = Int32.ofNat H ∧ H ≤ 10000
theorem heap_both {H : Nat} {v : Int32} {h : pH} (sg : Sg h) (t : HsI H h) : ∃ r h1 h2 H', fX11_heap N 6 v h = some (r, h1) ∧ fX12_heap N 138 v h1 = some (r, h2) ∧ HsI H' h2 ∧ Chg (fun a k => (a = 6 ∧ k = 9) ∨ (a = 138 ∧ k = 71)) h h2 := by
  have hin : ∀ h1 : pH, fX12_isIn N v.toInt64 10 10000 h1 = some (if v < 10 ∨ 10000 < v then 0 else 1, h1) := fun h1 => isIn_eq N v 10 10000 h1
  by_cases h1 : v < 10
  · refine ⟨-1, h, h, H, ?_, ?_, t, Chg.refl _ _⟩
    · unfold fX11_heap
      rw [if_pos (o_6 sg), if_pos h1]
    · unfold fX12_heap
      rw [if_pos (o_138 sg), hin, Option.bind_some, if_pos (Or.inl h1), if_pos rfl]
  · by_cases h2 : v ≤ 10000
    · have s1 := sg.wr 6 9 v
      have h0 : ¬ v < 0 := fun z => h1 (Int32.lt_of_lt_of_le z (by decide))
      have hm := (i_le_cl (v := v) (L := 10000) (by omega) h0).mp h2
      have hvm := (i_ncl h0).1
      refine ⟨1, wr h 6 9 v, wr (wr h 6 9 v) 138 71 v, v.toNatClampNeg, ?_, ?_, ⟨?_, ?_, hm⟩, (Chg.wr h 6 9 _ (by omega)).trans (Chg.wr _ 138 71 _ (by omega))⟩
      · unfold fX11_heap
        rw [if_pos (o_6 sg), if_neg h1, if_pos h2, p_6_9 sg, Option.bind_some]
      · unfold fX12_heap
        rw [if_pos (o_138 s1), hin, Option.bind_some, if_neg (show ¬ (v < 10 ∨ 10000 < v) from fun z => z.elim h1 (Int32.not_lt.mpr h2))]
        dsimp only
        rw [if_neg (by decide), p_138_71 s1, Option.bind_some]
      · rw [rd_wr_ne _ _ (by omega), w_6_9 sg]; exact hvm
      · rw [w_138_71 s1]; exact hvm
    · refine ⟨-1, h, h, H, ?_, ?_, t, Chg.refl _ _⟩
      · unfold fX11_heap
        rw [if_pos (o_6 sg), if_neg h1, if_neg h2]
      · unfold fX12_heap
        rw [if_pos (o_138 sg), hin, Option.bind_some, if_pos (Or.inr (Int32.not_le.mp h2)), if_pos rfl]
theorem mod300 {z : Nat} (h : z < 600) : Int32.ofNat z - Int32.ofNat z / 300 * 300 = Int32.ofNat (z % 300) := by
  have : ∀ z, z < 600 → Int32.ofNat z - Int32.ofNat z / 300 * 300 = Int32.ofNat (z % 300) := by decide +kernel
  exact this z h
theorem add_cls {inp : List Int32} {x : Int32} {h : pH} (sg : Sg h) (q : InC inp h) (hl : inp.length < 300) : ∃ h', fX4_add N 126 x h = some h' ∧ Sg h' ∧ InC (inp ++ [x]) h' ∧ Chg (fun a k => a = 127 ∨ (a = 126 ∧ k = 2)) h h' := by
  obtain ⟨z, q1, q2, q3, q4, q5⟩ := q
  have hm : (z + inp.length) % 300 < 300 := Nat.mod_lt _ (by omega)
  have s1 := sg.wr 127 ((z + inp.length) % 300) x
  have s2 := s1.wr 126 2 (Int32.ofNat (inp.length + 1))
  refine ⟨wr (wr h 127 ((z + inp.length) % 300) x) 126 2 (Int32.ofNat (inp.length + 1)), ?_, s2, ⟨z, ?_, q2, ?_, ?_, fun j y hj => ?_⟩, (Chg.wr h 127 _ _ (Or.inl rfl)).trans (Chg.wr _ 126 2 _ (Or.inr ⟨rfl, rfl⟩))⟩
  · unfold fX4_add
    rw [if_pos (o_126 sg), R_126_0 sg, Option.bind_some, g_126_1 sg, Option.bind_some, g_126_2 sg, Option.bind_some, q1, q3, ← Int32.ofNat_add, mod300 (by omega), T_127 sg hm, Option.bind_some, g_126_2 s1, Option.bind_some, rd_wr_ne _ _ (by omega), q3, i_add1, p_126_2 s1, Option.bind_some]
  · rw [rd_wr_ne _ _ (by omega), rd_wr_ne _ _ (by omega)]; exact q1
  · rw [w_126_2 s1, List.length_append]; rfl
  · rw [List.length_append]
    show inp.length + 1 ≤ 300
    omega
  · rw [rd_wr_ne _ _ (by omega)]
    by_cases hjl : j < inp.length
    · rw [List.getElem?_append_left hjl] at hj
      rw [rd_wr_ne _ _ (by omega)]
      exact q5 j y hj
    · rw [List.getElem?_append_right (by omega)] at hj
      have hj0 : j - inp.length = 0 := by
        have := (List.getElem?_eq_some_iff.mp hj).1
        have e1 : [x].length = 1 := rfl
        omega
      rw [hj0] at hj
      obtain rfl : x = y := Option.some.inj hj
      rw [show j = inp.length by omega, W_127 sg]
theorem input_both {inp : List Int32} {a b c : Int32} {h : pH} (sg : Sg h) (q : InC inp h) (q' : InR inp h) : ∃ r h1 h2 inp', fX11_input N 6 a b c h = some (r, h1) ∧ fX12_input N 138 a b c h1 = some (r, h2) ∧ Sg h2 ∧ InC inp' h2 ∧ InR inp' h2 ∧ Chg (fun a k => a = 127 ∨ (a = 126 ∧ k = 2) ∨ a = 184 ∨ (a = 138 ∧ k = 80)) h h2 := by
  obtain ⟨r1, r2, r3⟩ := q'
  have q0 := q
  obtain ⟨z, -, -, e2, -, -⟩ := q0
  by_cases hl : inp.length ≤ 297
  · obtain ⟨h1, a1, a2, a3, a4⟩ := add_cls (N := N) (x := a) sg q (by omega)
    obtain ⟨h2, b1, b2, b3, b4⟩ := add_cls (N := N) (x := b) a2 a3 (by rw [List.length_append]; show inp.length + 1 < 300; omega)
    obtain ⟨h3, c1, c2, c3, c4⟩ := add_cls (N := N) (x := c) b2 b3 (by rw [List.length_append, List.length_append]; show inp.length + 1 + 1 < 300; omega)
    have cc : Chg (fun a k => a = 127 ∨ (a = 126 ∧ k = 2)) h h3 := a4.trans (b4.trans c4)
    have e80 : rd h3 138 80 = Int32.ofNat inp.length := by rw [cc.2.2.1 _ _ (by omega)]; exact r1
    have e3 : rd h3 126 2 = Int32.ofNat (inp.length + 3) := by
      obtain ⟨z, -, -, e, -, -⟩ := c3
      rw [e, List.length_append, List.length_append, List.length_append]
      rfl
    have s1 := c2.wr 184 inp.length a
    have s2 := s1.wr 184 (inp.length + 1) b
    have s3 := s2.wr 184 (inp.length + 2) c
    have s4 := s3.wr 138 80 (Int32.ofNat (inp.length + 3))
    have c5 : Chg (fun a k => a = 184 ∨ (a = 138 ∧ k = 80)) h3 (wr (wr (wr (wr h3 184 inp.length a) 184 (inp.length + 1) b) 184 (inp.length + 2) c) 138 80 (Int32.ofNat (inp.length + 3))) := (Chg.wr h3 184 _ _ (by omega)).trans ((Chg.wr _ 184 _ _ (by omega)).trans ((Chg.wr _ 184 _ _ (by omega)).trans (Chg.wr _ 138 80 _ (by omega))))
    refine ⟨Int32.ofNat (inp.length + 3), h3, _, inp ++ [a] ++ [b] ++ [c], ?_, ?_, s4, ?_, ⟨?_, ?_, fun j x hj => ?_⟩, (cc.mono (fun a k z => by omega)).trans (c5.mono (fun a k z => by omega))⟩
    · unfold fX11_input fX4_addThree
      rw [if_pos (o_6 sg), R_6_6 sg, Option.bind_some, if_pos (o_126 sg), g_126_2 sg, Option.bind_some, e2, if_pos (show Int32.ofNat inp.length ≤ (297 : Int32) by rw [show (297 : Int32) = Int32.ofNat 297 from rfl, iLe (by omega) (by omega)]; omega), a1, Option.bind_some, b1, Option.bind_some, c1, Option.bind_some, g_126_2 c2, Option.bind_some, e3, Option.bind_some]
    · unfold fX12_input
      rw [if_pos (o_138 c2), g_138_80 c2, Option.bind_some, e80, show (3 : Int32) = Int32.ofNat 3 from rfl, ← Int32.ofNat_add, if_pos (show Int32.ofNat (inp.length + 3) ≤ (300 : Int32) by rw [show (300 : Int32) = Int32.ofNat 300 from rfl, iLe (by omega) (by omega)]; omega), R_138_81 c2, Option.bind_some, Option.bind_some, T_184 c2 (by omega), Option.bind_some, R_138_81 s1, Option.bind_some, g_138_80 s1, Option.bind_some, rd_wr_ne _ _ (by omega), e80, i_add1, T_184 s1 (by omega), Option.bind_some, R_138_81 s2, Option.bind_some, g_138_80 s2, Option.bind_some, rd_wr_ne _ _ (by omega), rd_wr_ne _ _ (by omega), e80, show Int32.ofNat inp.length + 2 = Int32.ofNat (inp.length + 2) by rw [Int32.ofNat_add]; rfl, T_184 s2 (by omega), Option.bind_some, g_138_80 s3, Option.bind_some, rd_wr_ne _ _ (by omega), rd_wr_ne _ _ (by omega), rd_wr_ne _ _ (by omega), e80, ← Int32.ofNat_add, p_138_80 s3, Option.bind_some, g_138_80 s4, Option.bind_some, w_138_80 s3]
    · obtain ⟨z, x1, x2, x3, x4, x5⟩ := c3
      exact ⟨z, (c5.2.2.1 _ _ (by omega)).trans x1, x2, (c5.2.2.1 _ _ (by omega)).trans x3, x4, fun j y hj => (c5.2.2.1 _ _ (by omega)).trans (x5 j y hj)⟩
    · rw [w_138_80 s3, List.length_append, List.length_append, List.length_append]; rfl
    · rw [List.length_append, List.length_append, List.length_append]
      show inp.length + 1 + 1 + 1 ≤ 300
      omega
    · rw [rd_wr_ne _ _ (by omega)]
      have hjl := (List.getElem?_eq_some_iff.mp hj).1
      rw [List.length_append, List.length_append, List.length_append] at hjl
      have hjl : j < inp.length + 1 + 1 + 1 := hjl
      rw [List.append_assoc, List.append_assoc] at hj
      by_cases j0 : j < inp.length
      · rw [List.getElem?_append_left j0] at hj
        rw [rd_wr_ne _ _ (by omega), rd_wr_ne _ _ (by omega), rd_wr_ne _ _ (by omega), cc.2.2.1 _ _ (by omega)]
        exact r3 j x hj
      · rw [List.getElem?_append_right (by omega)] at hj
        by_cases j1 : j = inp.length
        · subst j1
          rw [Nat.sub_self] at hj
          obtain rfl : a = x := Option.some.inj hj
          rw [rd_wr_ne _ _ (by omega), rd_wr_ne _ _ (by omega), W_184 c2]
        · by_cases j2 : j = inp.length + 1
          · subst j2
            rw [show inp.length + 1 - inp.length = 1 by omega] at hj
            obtain rfl : b = x := Option.some.inj hj
            rw [rd_wr_ne _ _ (by omega), W_184 s1]
          · have j3 : j = inp.length + 2 := by omega
            subst j3
            rw [show inp.length + 2 - inp.length = 2 by omega] at hj
            obtain rfl : c = x := Option.some.inj hj
            rw [W_184 s2]
  · refine ⟨-1, h, h, inp, ?_, ?_, sg, q, ⟨r1, r2, r3⟩, Chg.refl _ _⟩
    · unfold fX11_input fX4_addThree
      rw [if_pos (o_6 sg), R_6_6 sg, Option.bind_some, if_pos (o_126 sg), g_126_2 sg, Option.bind_some, e2, if_neg (show ¬ Int32.ofNat inp.length ≤ (297 : Int32) by rw [show (297 : Int32) = Int32.ofNat 297 from rfl, iLe (by omega) (by omega)]; omega), Option.bind_some]
    · unfold fX12_input
      rw [if_pos (o_138 sg), g_138_80 sg, Option.bind_some, r1, show (3 : Int32) = Int32.ofNat 3 from rfl, ← Int32.ofNat_add, if_neg (show ¬ Int32.ofNat (inp.length + 3) ≤ (300 : Int32) by rw [show (300 : Int32) = Int32.ofNat 300 from rfl, iLe (by omega) (by omega)]; omega)]
end EH
