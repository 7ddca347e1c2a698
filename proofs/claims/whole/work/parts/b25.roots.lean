/-! ===== THE CLASS moves what can be reached: the roots ===== -/
def Rx (T Z : Nat → Prop) (h h' : pH) : Prop := (∀ b, sh h' b = sh h b) ∧ (∀ a k, ¬ (a = 129 ∧ k = 2) → rd h' a k = rd h a k) ∧ ∀ a k, a ≠ 130 → a ≠ 131 → ¬ (a = pileR h ∧ T k) → ¬ (a = 136 ∧ Z k) → rdJ h' a k = rdJ h a k
theorem Rx.refl (T Z : Nat → Prop) (h : pH) : Rx T Z h h := ⟨fun _ => rfl, fun _ _ _ => rfl, fun _ _ _ _ _ _ => rfl⟩
theorem Rx.trans {T Z : Nat → Prop} {h h1 h2 : pH} (q1 : Rx T Z h h1) (q2 : Rx T Z h1 h2) : Rx T Z h h2 := ⟨fun b => (q2.1 b).trans (q1.1 b), fun a k n => (q2.2.1 a k n).trans (q1.2.1 a k n), fun a k n1 n2 n3 n4 => (q2.2.2 a k n1 n2 (by rw [pileR_of q1.1]; exact n3) n4).trans (q1.2.2 a k n1 n2 n3 n4)⟩
theorem Rx.mono {T T' Z Z' : Nat → Prop} {h h' : pH} (q : Rx T Z h h') (hT : ∀ k, T k → T' k) (hZ : ∀ k, Z k → Z' k) : Rx T' Z' h h' := ⟨q.1, q.2.1, fun a k n1 n2 n3 n4 => q.2.2 a k n1 n2 (fun z => n3 ⟨z.1, hT k z.2⟩) (fun z => n4 ⟨z.1, hZ k z.2⟩)⟩
theorem Mx.rx {T Z : Nat → Prop} {h h' : pH} (q : Mx h h') : Rx T Z h h' := ⟨q.1, q.2.1, fun a k n1 n2 _ _ => q.2.2 a k n1 n2⟩
theorem Mov.px {hp : List Ob} {R : Nat → Prop} {A A' : Nat → Nat} {L L' : List Nat} {p : Nat} {h h' : pH} (m : Mov hp R A L A' L' p h) (e1 : ∀ b, sh h' b = sh h b) (e2 : rd h' 129 2 = rd h 129 2) (e3 : ∀ k, rdJ h' 130 k = rdJ h 130 k ∧ rdJ h' 131 k = rdJ h 131 k) : Mov hp R A L A' L' p h' := by
  obtain ⟨m1, m2, m3, m4, m5, m6, m7, m8, m9, m10⟩ := m
  have ec := cR_of e1
  have eo := oR_of e1
  have hr := m1.rows.1
  have rc : ∀ k, rdJ h' (cR h) k = rdJ h (cR h) k := fun k => by
    rcases hr with ⟨q, _⟩ | ⟨q, _⟩ <;> rw [q]
    · exact (e3 k).1
    · exact (e3 k).2
  have ro : ∀ k, rdJ h' (oR h) k = rdJ h (oR h) k := fun k => by
    rcases hr with ⟨_, q⟩ | ⟨_, q⟩ <;> rw [q]
    · exact (e3 k).2
    · exact (e3 k).1
  refine ⟨m1.of e1, fun i hi => by rw [(e3 _).1, (e3 _).2]; exact m2 i hi, m3, m4, m5, e2.trans m6, m7, fun i h1 h2 => by rw [eo, ro, ro]; exact m8 i h1 h2, fun i h1 h2 ob hob => ?_, fun i h1 ob hob => ?_⟩
  · obtain ⟨d1, d2, d3⟩ := m9 i h1 h2 ob hob
    rw [eo]
    exact ⟨(ro _).trans d1, (ro _).trans d2, fun j v hj => by rw [ro]; exact d3 j v hj⟩
  · obtain ⟨d1, d2, d3⟩ := m10 i h1 ob hob
    rw [ec]
    exact ⟨(rc _).trans d1, (rc _).trans d2, fun j v hj => by rw [rc]; exact d3 j v hj⟩
/-- words of a place: a value, and what it tells of can be reached -/
def RtV (R : Nat → Prop) (v : Vl) : Prop := ∀ i, v = .inr (some i) → R i
section MV
variable {P : Pgm} {hp : List Ob} {R : Nat → Prop} {A : Nat → Nat} {L : List Nat} {p N : Nat}
theorem slot_mv {A' : Nat → Nat} {L' : List Nat} {h : pH} {k : Nat} {v : Vl} (hho : HO P hp) (hn : P.n ≤ 400) (old : OldC hp A L) (m : Mov hp R A L A' L' p h) (hk : k < pileN h) (hw : Ww A L (rdJ h (pileR h) k) v) (hR : RtV R v) : ∃ w' h1 h' A'' L'', fX3_moved N 129 (rdJ h (pileR h) k) h = some (w', h1) ∧ stJ h1 (pileR h) (Int32.ofNat k) w' = some h' ∧ Mov hp R A L A'' L'' p h' ∧ Rx (fun j => j = k) (fun _ => False) h h' ∧ Ww A'' L'' (rdJ h' (pileR h) k) v ∧ Ext A' L' A'' L'' := by
  obtain ⟨w', h1, A'', L'', e1, e2, e3, e4, e5⟩ := moved_ok (N := N) hho hn old m hw hR
  have s1 := e2.1
  have hap := m.1.apart
  have ep := pileR_of e3.1
  have t := T_p s1 (i := k) (by rw [pileN_of e3.1]; exact hk) w'
  rw [ep] at t
  have W := W_p s1 k w'
  rw [ep] at W
  refine ⟨w', h1, _, A'', L'', e1, t, e2.px (fun b => sh_wrJ _ _ _ _ b) (rd_wrJ _ _ _ _ _ _) (fun j => ⟨rdJ_wrJ_ne _ _ (by omega), rdJ_wrJ_ne _ _ (by omega)⟩), ?_, by rw [W]; exact e4, e5⟩
  refine e3.rx.trans ⟨fun b => sh_wrJ _ _ _ _ b, fun a j _ => rd_wrJ _ _ _ _ _ _, fun a j _ _ n3 _ => rdJ_wrJ_ne _ _ (fun z => n3 ⟨by rw [ep]; exact z.1.symm, z.2.symm⟩)⟩
/-- a range of the pile -/
theorem range_mv {k9 : Nat → Int32 → pH → Option pH} {v1 : Int32} {hi : Nat} {val : Nat → Vl} (hho : HO P hp) (hn : P.n ≤ 400) (old : OldC hp A L) : ∀ (n lo d : Nat) (A' : Nat → Nat) (L' : List Nat) (h : pH), lo + n = hi → n < d → hi ≤ pileN h → Mov hp R A L A' L' p h → (∀ k, lo ≤ k → k < hi → Ww A L (rdJ h (pileR h) k) (val k) ∧ RtV R (val k)) → ∃ h' A'' L'', fX5_moveReached_65 N k9 d 128 v1 (Int32.ofNat hi) (Int32.ofNat lo) h = fX5_moveReached_104 N k9 128 v1 h' ∧ Mov hp R A L A'' L'' p h' ∧ Rx (fun k => lo ≤ k ∧ k < hi) (fun _ => False) h h' ∧ (∀ k, lo ≤ k → k < hi → Ww A'' L'' (rdJ h' (pileR h) k) (val k)) ∧ Ext A' L' A'' L''
  | 0, lo, d, A', L', h, e, hd, hl, m, hv => by
    obtain ⟨d, rfl⟩ : ∃ d', d = d' + 1 := ⟨d - 1, by omega⟩
    have hpn := m.1.pile.2.2.2.2
    refine ⟨h, A', L', ?_, m, Rx.refl _ _ h, fun k k1 k2 => by omega, Ext.refl _ _⟩
    rw [fX5_moveReached_65, if_pos (by rw [iLe (by omega) (by omega)]; omega)]
  | n + 1, lo, d, A', L', h, e, hd, hl, m, hv => by
    obtain ⟨d, rfl⟩ : ∃ d', d = d' + 1 := ⟨d - 1, by omega⟩
    have s := m.1
    have hpn := s.pile.2.2.2.2
    obtain ⟨v, r⟩ := hv lo (Nat.le_refl _) (by omega)
    obtain ⟨w', h1, h2, A2, L2, e1, e2, e3, e4, e5, e6⟩ := slot_mv (N := N) hho hn old m (k := lo) (by omega) v r
    have ep := pileR_of e4.1
    have eN := pileN_of e4.1
    obtain ⟨h3, A3, L3, f1, f2, f3, f4, f5⟩ := range_mv (hi := hi) (val := val) hho hn old n (lo + 1) d A2 L2 h2 (by omega) (by omega) (by omega) e3 (fun k k1 k2 => by
      rw [ep, e4.2.2 _ _ (by have := s.apart; omega) (by have := s.apart; omega) (by omega) (by have := s.apart; omega)]
      exact hv k (by omega) k2)
    refine ⟨h3, A3, L3, ?_, f2, (e4.mono (fun k z => by omega) (fun _ z => z)).trans (f3.mono (fun k z => by omega) (fun _ z => z)), fun k k1 k2 => ?_, e6.trans f5⟩
    · rw [fX5_moveReached_65, if_neg (by rw [iLe (by omega) (by omega)]; omega), R_128_5 s, Option.bind_some, n_p s, Option.bind_some, if_neg (by rw [iLe (by omega) (by omega)]; omega), R_128_4 s]
      simp only [Option.bind_some]
      rw [L_p s (by omega), Option.bind_some, e1, Option.bind_some]
      dsimp only
      rw [e2, Option.bind_some, i_add1]
      exact f1
    · by_cases z : k = lo
      · subst z
        rw [f3.2.2 (pileR h) k (by have := s.apart; omega) (by have := s.apart; omega) (by omega) (by have := s.apart; omega)]
        exact e5.mono f5.2
      · have := f4 k (by omega) k2
        rw [ep] at this
        exact this
theorem range_mv2 {k9 : Nat → Int32 → pH → Option pH} {v1 : Int32} {hi : Nat} {val : Nat → Vl} (hho : HO P hp) (hn : P.n ≤ 400) (old : OldC hp A L) : ∀ (n lo d : Nat) (A' : Nat → Nat) (L' : List Nat) (h : pH), lo + n = hi → n < d → hi ≤ pileN h → Mov hp R A L A' L' p h → (∀ k, lo ≤ k → k < hi → Ww A L (rdJ h (pileR h) k) (val k) ∧ RtV R (val k)) → ∃ h' A'' L'', fX5_moveReached_153 N k9 d 128 v1 (Int32.ofNat hi) (Int32.ofNat lo) h = k9 128 (v1 + 1) h' ∧ Mov hp R A L A'' L'' p h' ∧ Rx (fun k => lo ≤ k ∧ k < hi) (fun _ => False) h h' ∧ (∀ k, lo ≤ k → k < hi → Ww A'' L'' (rdJ h' (pileR h) k) (val k)) ∧ Ext A' L' A'' L''
  | 0, lo, d, A', L', h, e, hd, hl, m, hv => by
    obtain ⟨d, rfl⟩ : ∃ d', d = d' + 1 := ⟨d - 1, by omega⟩
    have hpn := m.1.pile.2.2.2.2
    refine ⟨h, A', L', ?_, m, Rx.refl _ _ h, fun k k1 k2 => by omega, Ext.refl _ _⟩
    rw [fX5_moveReached_153, if_pos (by rw [iLe (by omega) (by omega)]; omega)]
  | n + 1, lo, d, A', L', h, e, hd, hl, m, hv => by
    obtain ⟨d, rfl⟩ : ∃ d', d = d' + 1 := ⟨d - 1, by omega⟩
    have s := m.1
    have hpn := s.pile.2.2.2.2
    obtain ⟨v, r⟩ := hv lo (Nat.le_refl _) (by omega)
    obtain ⟨w', h1, h2, A2, L2, e1, e2, e3, e4, e5, e6⟩ := slot_mv (N := N) hho hn old m (k := lo) (by omega) v r
    have ep := pileR_of e4.1
    have eN := pileN_of e4.1
    obtain ⟨h3, A3, L3, f1, f2, f3, f4, f5⟩ := range_mv2 (hi := hi) (val := val) hho hn old n (lo + 1) d A2 L2 h2 (by omega) (by omega) (by omega) e3 (fun k k1 k2 => by
      rw [ep, e4.2.2 _ _ (by have := s.apart; omega) (by have := s.apart; omega) (by omega) (by have := s.apart; omega)]
      exact hv k (by omega) k2)
    refine ⟨h3, A3, L3, ?_, f2, (e4.mono (fun k z => by omega) (fun _ z => z)).trans (f3.mono (fun k z => by omega) (fun _ z => z)), fun k k1 k2 => ?_, e6.trans f5⟩
    · rw [fX5_moveReached_153, if_neg (by rw [iLe (by omega) (by omega)]; omega), R_128_5 s, Option.bind_some, R_128_4 s]
      simp only [Option.bind_some]
      rw [L_p s (by omega), Option.bind_some, e1, Option.bind_some]
      dsimp only
      rw [e2, Option.bind_some, i_add1]
      exact f1
    · by_cases z : k = lo
      · subst z
        rw [f3.2.2 (pileR h) k (by have := s.apart; omega) (by have := s.apart; omega) (by omega) (by have := s.apart; omega)]
        exact e5.mono f5.2
      · have := f4 k (by omega) k2
        rw [ep] at this
        exact this
end MV
theorem Rx.st {T Z : Nat → Prop} {h h' g : pH} (q : Rx T Z h h') (b : StC g h) : StC g h' := ⟨b.1.of q.1, fun a k h1 h2 => (q.2.1 a k (by omega)).trans (b.2 a k h1 h2)⟩
/-- the words of a frame, by their places in the pile -/
def frV (f : Fm) (b t M : Nat) (se : Nat) (k : Nat) : Vl := if k < b + M then (f.2.1[k - b]?).getD (.inl 0) else if k < t then opV f.2.2.1 (t - 1 - k) else .inr (some se)
theorem frame_mv {P : Pgm} {hp : List Ob} {R : Nat → Prop} {A A' : Nat → Nat} {L L' : List Nat} {p N d n q b t M X pre hi D se : Nat} {g h : pH} {f : Fm} (hN : 5000 ≤ N) (hho : HO P hp) (hPn : P.n ≤ 400) (old : OldC hp A L) (m : Mov hp R A L A' L' p h) (st : StC g h) (hm : f.1.2.1 < 1000) (hF : FrK A L h g n f b t M X pre) (hX : f.2.2.1.length ≤ 1999) (hq : q < 3100) (h133 : rd h 133 n = Int32.ofNat q) (e44 : rd g 44 q = Int32.ofNat f.2.1.length) (hnD : n < D) (hD : D ≤ 100) (h11 : rd h 128 11 = Int32.ofNat D) (hhi : (n + 1 = D ∧ hi = t ∧ rd h 128 6 = Int32.ofNat t) ∨ (n + 1 < D ∧ hi = t + 1 ∧ rd h 134 (n + 1) = Int32.ofNat (t + 1) ∧ Ww A L (rdJ h (pileR h) t) (.inr (some se)) ∧ R se ∧ t + 1 ≤ pileN h)) (hR : ∀ j, rootF f j → R j) : ∃ h' A'' L'', fX5_moveReached_9 N (d + 1) 128 (Int32.ofNat n) h = fX5_moveReached_9 N d 128 (Int32.ofNat (n + 1)) h' ∧ Mov hp R A L A'' L'' p h' ∧ Rx (fun k => b ≤ k ∧ k < hi) (fun k => k = n) h h' ∧ Ext A' L' A'' L'' ∧ FrK A'' L'' h' g n f b t M X pre ∧ (n + 1 < D → Ww A'' L'' (rdJ h' (pileR h) t) (.inr (some se))) := by
  obtain ⟨i, lo, ops, E, xs, ks⟩ := f
  have s := m.1
  have hap := s.apart
  have htop := hF.top
  obtain ⟨j1, j2, j3, j4, j5, j6, j7, j8, j9, j10, j11, j12, j13, j14⟩ := id hF
  have j9 : t = b + M + ops.length := j9
  have j10 : lo.length ≤ M := j10
  have j2 : rd h 135 n = Int32.ofNat i.2.1 := j2
  have hpn := s.pile.2.2.2.2
  obtain ⟨w1, h1, A1, L1, a1, a2, a3, a4, a5⟩ := moved_ok (N := N) hho hPn old m j3 (fun j hj => hR j (Or.inl (by cases hj; rfl)))
  have s1 := a2.1
  have t1 := T_136 s1 (i := n) (by omega) w1
  have W1 := W_136 s1 n w1
  have b2 : Mov hp R A L A1 L1 p (wrJ h1 136 n w1) := a2.px (fun b => sh_wrJ _ _ _ _ b) (rd_wrJ _ _ _ _ _ _) (fun j => ⟨rdJ_wrJ_ne _ _ (by omega), rdJ_wrJ_ne _ _ (by omega)⟩)
  have b3 : Rx (fun _ => False) (fun k => k = n) h (wrJ h1 136 n w1) := a3.rx.trans ⟨fun b => sh_wrJ _ _ _ _ b, fun a j _ => rd_wrJ _ _ _ _ _ _, fun a j _ _ _ n4 => rdJ_wrJ_ne _ _ (fun z => n4 ⟨z.1.symm, z.2.symm⟩)⟩
  generalize hh2 : wrJ h1 136 n w1 = h2 at t1 W1 b2 b3
  have s2 := b2.1
  have st2 := b3.st st
  have ep2 := pileR_of b3.1
  have eN2 := pileN_of b3.1
  have pl2 : ∀ k, rdJ h2 (pileR h) k = rdJ h (pileR h) k := fun k => b3.2.2 _ _ (by omega) (by omega) (fun z => z.2) (by omega)
  have r2 : ∀ a k, a ≠ 129 → rd h2 a k = rd h a k := fun a k ha => b3.2.1 a k (by omega)
  have vlo : ∀ k, b ≤ k → k < b + lo.length → Ww A L (rdJ h2 (pileR h2) k) (frV (i, lo, ops, E, xs, ks) b t M se k) ∧ RtV R (frV (i, lo, ops, E, xs, ks) b t M se k) := fun k k1 k2 => by
    have hk : k - b < lo.length := by omega
    have e : frV (i, lo, ops, E, xs, ks) b t M se k = lo[k - b] := by
      unfold frV
      rw [if_pos (by omega)]
      show (lo[k - b]?).getD _ = _
      rw [List.getElem?_eq_getElem hk]
      rfl
    rw [e, ep2, pl2]
    refine ⟨?_, fun j hj => hR j (Or.inr (Or.inl ?_))⟩
    · have := j12 (k - b) _ (List.getElem?_eq_getElem hk)
      rw [show b + (k - b) = k by omega] at this
      exact this
    · rw [← hj]; exact List.getElem_mem hk
  obtain ⟨h3, A3, L3, c1, c2, c3, c4, c5⟩ := range_mv (N := N) (k9 := fX5_moveReached_9 N d) (v1 := Int32.ofNat n) (hi := b + lo.length) hho hPn old lo.length b N A1 L1 h2 rfl (by omega) (by omega) b2 vlo
  have s3 := c2.1
  have st3 := c3.st st2
  have ep3 := pileR_of c3.1
  have eN3 := pileN_of c3.1
  have r3 : ∀ a k, a ≠ 129 → rd h3 a k = rd h a k := fun a k ha => (c3.2.1 a k (by omega)).trans (r2 a k ha)
  have hhb : hi = t ∨ hi = t + 1 := by omega
  have hhp : hi ≤ pileN h := by omega
  have vop : ∀ k, b + M ≤ k → k < hi → Ww A L (rdJ h3 (pileR h3) k) (frV (i, lo, ops, E, xs, ks) b t M se k) ∧ RtV R (frV (i, lo, ops, E, xs, ks) b t M se k) := fun k k1 k2 => by
    rw [ep3, c3.2.2 _ _ (by omega) (by omega) (by omega) (fun z => z.2), ep2, pl2]
    unfold frV
    rw [if_neg (by omega)]
    by_cases hk : k < t
    · rw [if_pos hk]
      have hl : t - 1 - k < ops.length := by omega
      have := hF.op (j := t - 1 - k) hl
      rw [show t - 1 - (t - 1 - k) = k by omega] at this
      refine ⟨this, fun j hj => hR j (Or.inr (Or.inr ?_))⟩
      have hj : opV ops (t - 1 - k) = .inr (some j) := hj
      unfold opV at hj
      rw [List.getElem?_eq_getElem hl] at hj
      refine ⟨(ops[t - 1 - k]).1, ?_⟩
      show (_, Sum.inr (some j)) ∈ ops
      rw [← hj]
      exact List.getElem_mem hl
    · rw [if_neg hk]
      rcases hhi with ⟨_, z, _⟩ | ⟨_, z, _, z1, z2, _⟩
      · omega
      · rw [show k = t by omega]
        exact ⟨z1, fun j hj => by cases hj; exact z2⟩
  obtain ⟨h4, A4, L4, d1, d2, d3, d4, d5⟩ := range_mv2 (N := N) (k9 := fX5_moveReached_9 N d) (v1 := Int32.ofNat n) (hi := hi) hho hPn old (hi - (b + M)) (b + M) N A3 L3 h3 (by omega) (by omega) (by omega) c2 vop
  have ep4 := pileR_of d3.1
  have eN4 := pileN_of d3.1
  refine ⟨h4, A4, L4, ?_, d2, ?_, a5.trans (c5.trans d5), ?_, fun hlt => ?_⟩
  · rw [fX5_moveReached_9, g_128_11 s, Option.bind_some, h11, if_neg (by rw [iLe (by omega) (by omega)]; omega), R_128_10 s, Option.bind_some, R_128_4 s, Option.bind_some]
    simp only [Option.bind_some]
    rw [L_136 s (by omega), Option.bind_some, a1, Option.bind_some]
    dsimp only
    rw [t1, Option.bind_some, R_128_8 s2, Option.bind_some, L_134 s2 (by omega), Option.bind_some, R_128_2 s2, Option.bind_some, R_38_5 s2, Option.bind_some, R_128_7 s2, Option.bind_some, L_133 s2 (by omega), Option.bind_some, r2 133 n (by omega), h133, L_44 s2 hq, Option.bind_some, st2.2 44 q (by omega) (by omega), e44, r2 134 n (by omega), j1]
    simp only [Option.bind_some]
    rw [L_134 s2 (by omega), Option.bind_some, r2 134 n (by omega), j1, ← Int32.ofNat_add]
    show fX5_moveReached_65 N (fX5_moveReached_9 N d) N 128 (Int32.ofNat n) (Int32.ofNat (b + lo.length)) (Int32.ofNat b) h2 = _
    rw [c1]
    have e129 : ∀ x, x = Int32.ofNat hi → fX5_moveReached_129 N (fX5_moveReached_9 N d) 128 (Int32.ofNat n) x h3 = fX5_moveReached_9 N d 128 (Int32.ofNat (n + 1)) h4 := fun x hx => by
      unfold fX5_moveReached_129
      rw [R_128_8 s3, Option.bind_some, L_134 s3 (by omega), Option.bind_some, R_128_1 s3, Option.bind_some, R_25_9 s3, Option.bind_some, R_128_9 s3, Option.bind_some, L_135 s3 (by omega), Option.bind_some, r3 135 n (by omega), j2, L_34 s3 hm, Option.bind_some, r3 134 n (by omega), j1, st3.2 34 _ (by omega) (by omega), show rd g 34 i.2.1 = _ from j6, ← Int32.ofNat_add, hx, d1, i_add1]
    unfold fX5_moveReached_104
    rw [g_128_11 s3, Option.bind_some, r3 128 11 (by omega), h11, i_add1]
    rcases hhi with ⟨z1, z2, z3⟩ | ⟨z1, z2, z3, _⟩
    · rw [if_pos (by rw [iLe (by omega) (by omega)]; omega), g_128_6 s3, Option.bind_some, r3 128 6 (by omega), z3]
      exact e129 _ (by rw [z2])
    · rw [if_neg (by rw [iLe (by omega) (by omega)]; omega), R_128_8 s3, Option.bind_some, L_134 s3 (by omega), Option.bind_some, r3 134 _ (by omega), z3]
      exact e129 _ (by rw [z2])
  · exact (b3.mono (fun k z => z.elim) (fun k z => z)).trans ((c3.mono (fun k z => by omega) (fun _ z => z.elim)).trans (d3.mono (fun k z => by omega) (fun _ z => z.elim)))
  · have r4 : ∀ a k, a ≠ 129 → rd h4 a k = rd h a k := fun a k ha => (d3.2.1 a k (by omega)).trans (r3 a k ha)
    refine ⟨(r4 _ _ (by omega)).trans j1, (r4 _ _ (by omega)).trans j2, ?_, j4, j5, j6, j7, j8, j9, j10, by omega, ?_, ?_, j14⟩
    · rw [d3.2.2 136 _ (by omega) (by omega) (by omega) (fun z => z.2), c3.2.2 136 _ (by omega) (by omega) (by omega) (fun z => z.2), ← hh2, W_136 s1]
      exact (a4.mono c5.2).mono d5.2
    · intro j v hj
      have hj : lo[j]? = some v := hj
      have hjl := (List.getElem?_eq_some_iff.mp hj).1
      rw [ep4, ep3, ep2, d3.2.2 _ _ (by omega) (by omega) (by omega) (fun z => z.2)]
      have := c4 (b + j) (by omega) (by omega)
      rw [ep2] at this
      have e : frV (i, lo, ops, E, xs, ks) b t M se (b + j) = v := by
        unfold frV
        rw [if_pos (by omega)]
        show (lo[b + j - b]?).getD _ = _
        rw [show b + j - b = j by omega, hj]
        rfl
      rw [e] at this
      exact this.mono d5.2
    · intro j x hj
      have hj : ops[j]? = some x := hj
      have hjl := (List.getElem?_eq_some_iff.mp hj).1
      rw [ep4, ep3, ep2]
      have := d4 (t - 1 - j) (by omega) (by omega)
      rw [ep3, ep2] at this
      have e : frV (i, lo, ops, E, xs, ks) b t M se (t - 1 - j) = x.2 := by
        unfold frV
        rw [if_neg (by omega), if_pos (by omega)]
        show opV ops _ = _
        rw [show t - 1 - (t - 1 - j) = j by omega]
        unfold opV
        rw [hj]
      rw [e] at this
      exact this
  · have := d4 t (by omega) (by omega)
    rw [ep3, ep2] at this
    have e : frV (i, lo, ops, E, xs, ks) b t M se t = .inr (some se) := by
      unfold frV
      rw [if_neg (by omega), if_neg (by omega)]
    rw [e] at this
    exact this
