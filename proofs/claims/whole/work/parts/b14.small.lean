/-! ===== THE CLASS' SMALL STEPS ===== -/
/-- what may change: fields Q of the machine, places Z of calls, words T of the pile -/
def Cg (Q Z T : Nat → Prop) (h h' : pH) : Prop := (∀ b, sh h' b = sh h b) ∧ h'.length = h.length ∧ (∀ a k, ¬ (a = 128 ∧ Q k) → ¬ (a = 133 ∧ Z k) → rd h' a k = rd h a k) ∧ ∀ a k, ¬ (a = pileR h ∧ T k) → rdJ h' a k = rdJ h a k
theorem Ch.cg {Q Z T : Nat → Prop} {h h' : pH} (q : Ch T h h') (hQ : Q 6) : Cg Q Z T h h' := ⟨q.1, q.2.1, fun a k n _ => q.2.2.1 a k (fun z => n ⟨z.1, z.2 ▸ hQ⟩), q.2.2.2⟩
theorem Cg.refl (Q Z T : Nat → Prop) (h : pH) : Cg Q Z T h h := ⟨fun _ => rfl, rfl, fun _ _ _ _ => rfl, fun _ _ _ => rfl⟩
theorem Cg.trans {Q Z T : Nat → Prop} {h h1 h2 : pH} (q1 : Cg Q Z T h h1) (q2 : Cg Q Z T h1 h2) : Cg Q Z T h h2 := ⟨fun b => (q2.1 b).trans (q1.1 b), q2.2.1.trans q1.2.1, fun a k n n' => (q2.2.2.1 a k n n').trans (q1.2.2.1 a k n n'), fun a k n => (q2.2.2.2 a k (by rw [pileR_of q1.1]; exact n)).trans (q1.2.2.2 a k n)⟩
theorem Cg.mono {Q Q' Z Z' T T' : Nat → Prop} {h h' : pH} (q : Cg Q Z T h h') (hq : ∀ k, Q k → Q' k) (hz : ∀ k, Z k → Z' k) (ht : ∀ k, T k → T' k) : Cg Q' Z' T' h h' := ⟨q.1, q.2.1, fun a k n n' => q.2.2.1 a k (fun z => n ⟨z.1, hq k z.2⟩) (fun z => n' ⟨z.1, hz k z.2⟩), fun a k n => q.2.2.2 a k (fun z => n ⟨z.1, ht k z.2⟩)⟩
theorem Cg.sg {Q Z T : Nat → Prop} {h h' : pH} (q : Cg Q Z T h h') (hs : Sg h) : Sg h' := hs.of q.1
theorem Cg.wr {Q Z T : Nat → Prop} (h : pH) (k : Nat) (x : Int32) (hq : Q k) : Cg Q Z T h (wr h 128 k x) := ⟨fun b => sh_wr _ _ _ _ b, wr_len _ _ _ _, fun a j n _ => rd_wr_ne _ _ (fun z => n ⟨z.1.symm, z.2 ▸ hq⟩), fun a j _ => rdJ_wr _ _ _ _ _ _⟩
theorem Cg.pg {Q Z T : Nat → Prop} {h h' : pH} (q : Cg Q Z T h h') {n t : Nat} (hZ : ∀ k, Z k → n ≤ k) (hT : ∀ k, T k → t ≤ k) (hs : Sg h) : PgA n t h h' := ⟨q.1, fun k => ⟨q.2.2.1 _ _ (by omega) (by omega), q.2.2.1 _ _ (by omega) (by omega), q.2.2.2 _ _ (by have := hs.apart; omega)⟩, fun k hk => q.2.2.1 _ _ (by omega) (fun z => by have := hZ k z.2; omega), fun k hk => q.2.2.2 _ _ (fun z => by have := hT k z.2; omega)⟩
/-- all but the frames -/
def Bse (g : pH) (G : Gs) (A : Nat → Nat) (L : List Nat) (h : pH) : Prop := StC g h ∧ FtC h ∧ CnC G h ∧ HpC G.1 G.2.2.2.2 A L h
def QF (k : Nat) : Prop := k = 6 ∨ k = 11 ∨ k = 12 ∨ k = 13 ∨ k = 14
theorem Cg.st {Q Z T : Nat → Prop} {h h' g : pH} (q : Cg Q Z T h h') (b : StC g h) : StC g h' := ⟨q.sg b.1, fun a k h1 h2 => (q.2.2.1 a k (by omega) (by omega)).trans (b.2 a k h1 h2)⟩
theorem Cg.ft {Q Z T : Nat → Prop} {h h' : pH} (q : Cg Q Z T h h') (hs : Sg h) (b : FtC h) : FtC h' := fun i hi => by
  have := hs.apart
  rw [q.2.2.2 130 _ (by omega), q.2.2.2 131 _ (by omega)]
  exact b i hi
theorem Cg.cn {Q Z T : Nat → Prop} {h h' : pH} {G : Gs} (q : Cg Q Z T h h') (hQ : ∀ k, Q k → QF k) (b : CnC G h) : CnC G h' := by
  obtain ⟨b1, b2, b3, b4, b5, z, b6, b7, b8, b9, b10⟩ := b
  have e : ∀ k, ¬ QF k → rd h' 128 k = rd h 128 k := fun k hk => q.2.2.1 _ _ (fun z => hk (hQ k z.2)) (by omega)
  have e' : ∀ a k, a ≠ 128 → a ≠ 133 → rd h' a k = rd h a k := fun a k h1 h2 => q.2.2.1 _ _ (by omega) (by omega)
  refine ⟨(e _ (by unfold QF; omega)).trans b1, (e _ (by unfold QF; omega)).trans b2, (e _ (by unfold QF; omega)).trans b3, (e _ (by unfold QF; omega)).trans b4, fun j x h1 h2 => (e' _ _ (by omega) (by omega)).trans (b5 j x h1 h2), z, (e' _ _ (by omega) (by omega)).trans b6, b7, (e' _ _ (by omega) (by omega)).trans b8, b9, fun j x h1 => (e' _ _ (by omega) (by omega)).trans (b10 j x h1)⟩
theorem Cg.hp {Q Z T : Nat → Prop} {h h' : pH} {hp : List Ob} {H : Nat} {A : Nat → Nat} {L : List Nat} (q : Cg Q Z T h h') (hs : Sg h) (b : HpC hp H A L h) : HpC hp H A L h' := by
  obtain ⟨b1, b2, b3, b4, b5, b6, b7⟩ := b
  refine ⟨b1, b2, (q.2.2.1 _ _ (by omega) (by omega)).trans b3, b4, b5, (q.2.2.1 _ _ (by omega) (by omega)).trans b6, fun i hi ob hob => ?_⟩
  have hr : ∀ k, rdJ h' (cR h') k = rdJ h (cR h) k := fun k => by
    rw [cR_of q.1]
    exact q.2.2.2 _ _ (by have := hs.apart; omega)
  obtain ⟨c1, c2, c3⟩ := b7 i hi ob hob
  exact ⟨(hr _).trans c1, (hr _).trans c2, fun j v hj => by rw [hr]; exact c3 j v hj⟩
theorem Cg.bse {Q Z T : Nat → Prop} {h h' g : pH} {G : Gs} {A : Nat → Nat} {L : List Nat} (q : Cg Q Z T h h') (hQ : ∀ k, Q k → QF k) (b : Bse g G A L h) : Bse g G A L h' := ⟨q.st b.1, q.ft b.1.1 b.2.1, q.cn hQ b.2.2.1, q.hp b.1.1 b.2.2.2⟩
/-- what is not the machine's -/
def Out (h h' : pH) : Prop := (∀ a k, a < 126 ∨ (138 ≤ a ∧ a < 205) → rd h' a k = rd h a k) ∧ pileN h' = pileN h
theorem Out.refl (h : pH) : Out h h := ⟨fun _ _ _ => rfl, rfl⟩
theorem Cg.out {Q Z T : Nat → Prop} {h h' : pH} (q : Cg Q Z T h h') : Out h h' := ⟨fun a k ha => q.2.2.1 a k (by omega) (by omega), pileN_of q.1⟩
theorem Out.trans {h h1 h2 : pH} (q1 : Out h h1) (q2 : Out h1 h2) : Out h h2 := ⟨fun a k ha => (q2.1 a k ha).trans (q1.1 a k ha), q2.2.trans q1.2⟩
/-- a program's code -/
def Cde (U : Nat) (g : pH) : Prop := rd g 38 7 = Int32.ofNat U ∧ U ≤ 3000
theorem e2_has {h g : pH} {U pc : Nat} (hs : StC g h) (hU : Cde U g) (hp : pc < U) (N : Nat) : fX2_has N 38 (Int32.ofNat pc) h = some (1, h) := by
  have hU2 := hU.2
  unfold fX2_has
  rw [if_pos (o_38 hs.1), if_neg (i_nneg (by omega)), g_38_7 hs.1, Option.bind_some, hs.2 38 7 (by omega) (by omega), hU.1, if_neg (by rw [iLe (by omega) (by omega)]; omega)]
theorem e2_sil {h g : pH} {U pc : Nat} (hs : StC g h) (hU : Cde U g) (hp : pc < U) (N : Nat) : fX2_isSilent N 38 (Int32.ofNat pc) h = some (if rd g 39 pc < 50 then 0 else 1, h) := by
  have hU2 := hU.2
  unfold fX2_isSilent
  rw [if_pos (o_38 hs.1), e2_has hs hU hp, Option.bind_some]
  dsimp only
  rw [if_neg (by decide), R_38_0 hs.1, Option.bind_some, L_39 hs.1 (by omega), Option.bind_some, hs.2 39 pc (by omega) (by omega)]
  split <;> rfl
theorem settle_go {h h' g : pH} {U pc v N d : Nat} {k : Int32} (hs : StC g h) (hU : Cde U g) (hp : pc < U) (h13 : rd h 128 13 = 0) (h12 : rd h 128 12 = Int32.ofNat pc) (hk : rd g 39 pc = k) (h50 : ¬ k < 50) (hv : v + 1 ≤ 1000000) (ha : fX5_actSilent N 128 k (Int32.ofNat pc) h = some h') : fX5_settle_2 N (d + 1) 128 (Int32.ofNat v) h = fX5_settle_2 N d 128 (Int32.ofNat (v + 1)) h' := by
  have hU2 := hU.2
  rw [fX5_settle_2, if_neg (by rw [show (1000000 : Int32) = Int32.ofNat 1000000 from rfl, iLe (by omega) (by omega)]; omega), g_128_13 hs.1, Option.bind_some, h13, if_pos rfl, R_128_2 hs.1, Option.bind_some, g_128_12 hs.1, Option.bind_some, h12, e2_sil hs hU hp, Option.bind_some]
  dsimp only
  rw [hk, if_neg h50, if_neg (by decide), R_128_2 hs.1, Option.bind_some, R_38_0 hs.1, Option.bind_some, g_128_12 hs.1, Option.bind_some, h12, L_39 hs.1 (by omega), Option.bind_some, hs.2 39 pc (by omega) (by omega), hk, Option.bind_some, ha, Option.bind_some, i_add1]
theorem settle_stop {h g : pH} {U pc v N d : Nat} (hs : StC g h) (hU : Cde U g) (hp : pc < U) (h12 : rd h 128 12 = Int32.ofNat pc) (h50 : rd g 39 pc < 50) : fX5_settle_2 N (d + 1) 128 (Int32.ofNat v) h = some h := by
  rw [fX5_settle_2]
  split
  · rfl
  · rw [g_128_13 hs.1, Option.bind_some]
    split
    · rw [R_128_2 hs.1, Option.bind_some, g_128_12 hs.1, Option.bind_some, h12, e2_sil hs hU hp, Option.bind_some]
      dsimp only
      rw [if_pos h50, if_pos rfl]
    · rfl
theorem settle_end {h : pH} {v N d : Nat} (hs : Sg h) (h13 : rd h 128 13 ≠ 0) : fX5_settle_2 N (d + 1) 128 (Int32.ofNat v) h = some h := by
  rw [fX5_settle_2]
  split
  · rfl
  · rw [g_128_13 hs, Option.bind_some, if_neg h13]
/-- pieces without a step -/
theorem sil_nop {h : pH} {pc N : Nat} {k : Int32} (hs : Sg h) (hk : k = 51 ∨ k = 55 ∨ k = 56 ∨ k = 58 ∨ k = 60) : fX5_actSilent N 128 k (Int32.ofNat pc) h = some (wr h 128 12 (Int32.ofNat (pc + 1))) := by
  unfold fX5_actSilent
  rw [if_pos (o_128 hs), i_add1, p_128_12 hs, Option.bind_some]
  rcases hk with rfl | rfl | rfl | rfl | rfl <;> rfl
theorem sil_jmp {h g : pH} {pc u N : Nat} {k : Int32} (hs : StC g h) (hp : pc < 3100) (hu : rd g 42 pc = Int32.ofNat u) (hk : k = 54 ∨ k = 57 ∨ k = 59) : ∃ h', fX5_actSilent N 128 k (Int32.ofNat pc) h = some h' ∧ Cg (fun k => k = 12) (fun _ => False) (fun _ => False) h h' ∧ rd h' 128 12 = Int32.ofNat u := by
  have s1 : Sg (wr h 128 12 (Int32.ofNat (pc + 1))) := hs.1.wr _ _ _
  refine ⟨wr (wr h 128 12 (Int32.ofNat (pc + 1))) 128 12 (Int32.ofNat u), ?_, (Cg.wr (Q := fun k => k = 12) h 12 _ rfl).trans (Cg.wr _ 12 _ rfl), w_128_12 s1 _⟩
  have e : fX5_actSilent_120 N 128 (Int32.ofNat pc) (wr h 128 12 (Int32.ofNat (pc + 1))) = some (wr (wr h 128 12 (Int32.ofNat (pc + 1))) 128 12 (Int32.ofNat u)) := by
    unfold fX5_actSilent_120
    rw [R_128_2 s1, Option.bind_some, R_38_3 s1, Option.bind_some, L_42 s1 hp, Option.bind_some, rd_wr_ne _ _ (by omega), hs.2 42 pc (by omega) (by omega), hu, p_128_12 s1, Option.bind_some]
  unfold fX5_actSilent
  rw [if_pos (o_128 hs.1), i_add1, p_128_12 hs.1, Option.bind_some]
  rcases hk with rfl | rfl | rfl
  · exact e
  · exact e
  · exact e
theorem sil_self {h : pH} {pc n t N : Nat} (hs : Sg h) (hn : rd h 128 11 = Int32.ofNat (n + 1)) (hn1 : n < 100) (ht : rd h 128 6 = Int32.ofNat t) (hl : t < pileN h) : ∃ h', fX5_actSilent N 128 50 (Int32.ofNat pc) h = some h' ∧ Cg (fun k => k = 6 ∨ k = 12) (fun _ => False) (fun k => k = t) h h' ∧ rd h' 128 12 = Int32.ofNat (pc + 1) ∧ rd h' 128 6 = Int32.ofNat (t + 1) ∧ rdJ h' (pileR h) t = rdJ h 136 n := by
  have s1 : Sg (wr h 128 12 (Int32.ofNat (pc + 1))) := hs.wr _ _ _
  obtain ⟨h2, e1, e2, e3, e4⟩ := e5_push (h := wr h 128 12 (Int32.ofNat (pc + 1))) s1 (t := t) (by rw [rd_wr_ne _ _ (by omega)]; exact ht) (by rw [pileN_wr]; exact hl) N (rdJ h 136 n)
  refine ⟨h2, ?_, (Cg.wr h 12 _ (Or.inr rfl)).trans (e2.cg (Or.inl rfl)), ?_, e3, ?_⟩
  · unfold fX5_actSilent
    rw [if_pos (o_128 hs), i_add1, p_128_12 hs, Option.bind_some]
    show ((getR _ 128 5 10).bind fun t18 => (getI _ 128 5 11).bind fun t19 => (ldJ _ t18 (t19 - (1 : Int32))).bind fun t20 => (fX5_push N 128 t20 _).bind fun h21 => some h21) = some h2
    rw [R_128_10 s1, Option.bind_some, g_128_11 s1, Option.bind_some, rd_wr_ne _ _ (by omega), hn, i_sub1, L_136 s1 hn1, Option.bind_some, rdJ_wr, e1, Option.bind_some]
  · rw [e2.2.2.1 _ _ (by omega), w_128_12 hs]
  · rw [pileR_wr] at e4
    exact e4
theorem sil_drop {h : pH} {pc t N : Nat} (hs : Sg h) (ht : rd h 128 6 = Int32.ofNat (t + 1)) (hl : t < pileN h) : ∃ h', fX5_actSilent N 128 52 (Int32.ofNat pc) h = some h' ∧ Cg (fun k => k = 6 ∨ k = 12) (fun _ => False) (fun _ => False) h h' ∧ rd h' 128 12 = Int32.ofNat (pc + 1) ∧ rd h' 128 6 = Int32.ofNat t := by
  have s1 : Sg (wr h 128 12 (Int32.ofNat (pc + 1))) := hs.wr _ _ _
  obtain ⟨h2, e1, e2, e3⟩ := e5_pop (h := wr h 128 12 (Int32.ofNat (pc + 1))) s1 (t := t) (by rw [rd_wr_ne _ _ (by omega)]; exact ht) (by rw [pileN_wr]; exact hl) N
  refine ⟨h2, ?_, (Cg.wr h 12 _ (Or.inr rfl)).trans (e2.cg (Or.inl rfl)), ?_, e3⟩
  · unfold fX5_actSilent
    rw [if_pos (o_128 hs), i_add1, p_128_12 hs, Option.bind_some]
    show ((fX5_pop N 128 _).bind fun q22 => some q22.2) = some h2
    rw [e1, Option.bind_some]
  · rw [e2.2.2.1 _ _ (by omega), w_128_12 hs]
theorem e5_slot {h : pH} {b n j N : Nat} (hs : Sg h) (hn : rd h 128 11 = Int32.ofNat (n + 1)) (hn1 : n < 100) (hb : rd h 134 n = Int32.ofNat b) (hl : b + j < pileN h) : fX5_slot N 128 (Int32.ofNat j) h = some (Int32.ofNat (b + j), h) := by
  have := hs.pile.2.2.2.2
  unfold fX5_slot
  rw [if_pos (o_128 hs), R_128_8 hs, Option.bind_some, g_128_11 hs, Option.bind_some, hn, i_sub1, L_134 hs hn1, Option.bind_some, R_128_5 hs, Option.bind_some, n_p hs, Option.bind_some, hb, ← Int32.ofNat_add, show Int32.ofNat (pileN h) - 1 = Int32.ofNat (pileN h - 1) from i_subk (k := 1) (by omega), if_neg (by rw [iLt (by omega) (by omega)]; omega)]
theorem sil_tell {h g : pH} {pc b n j N : Nat} (hs : StC g h) (hp : pc < 3100) (hj : rd g 40 pc = Int32.ofNat j) (hn : rd h 128 11 = Int32.ofNat (n + 1)) (hn1 : n < 100) (hb : rd h 134 n = Int32.ofNat b) (hl : b + j < pileN h) : ∃ h', fX5_actSilent N 128 53 (Int32.ofNat pc) h = some h' ∧ Cg (fun k => k = 12) (fun _ => False) (fun k => k = b + j) h h' ∧ rd h' 128 12 = Int32.ofNat (pc + 1) ∧ rdJ h' (pileR h) (b + j) = 0 := by
  have s1 : Sg (wr h 128 12 (Int32.ofNat (pc + 1))) := hs.1.wr _ _ _
  refine ⟨wrJ (wr h 128 12 (Int32.ofNat (pc + 1))) (pileR h) (b + j) 0, ?_, (Cg.wr (Q := fun k => k = 12) h 12 _ rfl).trans ⟨fun b => sh_wrJ _ _ _ _ b, wrJ_len _ _ _ _, fun a k _ _ => rd_wrJ _ _ _ _ _ _, fun a k n => rdJ_wrJ_ne _ _ (fun z => n ⟨by rw [pileR_wr]; exact z.1.symm, z.2.symm⟩)⟩, ?_, ?_⟩
  · unfold fX5_actSilent
    rw [if_pos (o_128 hs.1), i_add1, p_128_12 hs.1, Option.bind_some]
    show ((getR _ 128 5 5).bind fun t23 => (getR _ 128 5 2).bind fun t24 => (getR _ t24 2 1).bind fun t25 => (ldI _ t25 (Int32.ofNat pc)).bind fun t26 => (fX5_slot N 128 t26 _).bind fun q27 => (stJ q27.2 t23 q27.1 (0 : Int64)).bind fun h28 => some h28) = _
    rw [R_128_5 s1, Option.bind_some, R_128_2 s1, Option.bind_some, R_38_1 s1, Option.bind_some, L_40 s1 hp, Option.bind_some, rd_wr_ne _ _ (by omega), hs.2 40 pc (by omega) (by omega), hj, e5_slot (b := b) (n := n) s1 (by rw [rd_wr_ne _ _ (by omega)]; exact hn) hn1 (by rw [rd_wr_ne _ _ (by omega)]; exact hb) (by rw [pileN_wr]; exact hl), Option.bind_some, T_p s1 (by rw [pileN_wr]; exact hl), Option.bind_some, pileR_wr]
  · rw [rd_wrJ, w_128_12 hs.1]
  · have := W_p s1 (b + j) 0
    rw [pileR_wr] at this
    exact this
/-- a method is closed -/
theorem e5_close0 {h : pH} {b N : Nat} (hs : Sg h) (hn : rd h 128 11 = Int32.ofNat 1) (hb : rd h 134 0 = Int32.ofNat b) (w : Int64) : ∃ h', fX5_closeMethod N 128 w h = some h' ∧ Cg QF (fun _ => False) (fun _ => False) h h' ∧ rd h' 128 13 = 1 ∧ rd h' 128 14 = w.toInt32 := by
  have s1 : Sg (wr h 128 6 (Int32.ofNat b - 1)) := hs.wr _ _ _
  have s2 := s1.wr 128 11 (Int32.ofNat 0)
  have s3 := s2.wr 128 13 1
  refine ⟨_, ?_, (Cg.wr h 6 (Int32.ofNat b - 1) (Or.inl rfl)).trans ((Cg.wr _ 11 (Int32.ofNat 0) (Or.inr (Or.inl rfl))).trans ((Cg.wr _ 13 1 (Or.inr (Or.inr (Or.inr (Or.inl rfl))))).trans (Cg.wr _ 14 w.toInt32 (Or.inr (Or.inr (Or.inr (Or.inr rfl))))))), ?_, w_128_14 s3 _⟩
  · unfold fX5_closeMethod
    rw [if_pos (o_128 hs), R_128_8 hs, Option.bind_some, g_128_11 hs, Option.bind_some, hn, show Int32.ofNat 1 - 1 = Int32.ofNat 0 from rfl, L_134 hs (by omega), Option.bind_some, hb, p_128_6 hs, Option.bind_some, g_128_11 s1, Option.bind_some, rd_wr_ne _ _ (by omega), hn, show Int32.ofNat 1 - 1 = Int32.ofNat 0 from rfl, p_128_11 s1, Option.bind_some, g_128_11 s2, Option.bind_some, w_128_11 s1, if_pos (by decide), p_128_13 s2, Option.bind_some, p_128_14 s3, Option.bind_some]
  · rw [rd_wr_ne _ _ (by omega), w_128_13 s2]
theorem e5_close {h : pH} {b n q N : Nat} (hs : Sg h) (hn : rd h 128 11 = Int32.ofNat (n + 2)) (hn1 : n < 99) (hb : rd h 134 (n + 1) = Int32.ofNat (b + 1)) (hq : rd h 133 n = Int32.ofNat q) (hl : b < pileN h) (w : Int64) : ∃ h', fX5_closeMethod N 128 w h = some h' ∧ Cg (fun k => k = 6 ∨ k = 11 ∨ k = 12) (fun _ => False) (fun k => k = b) h h' ∧ rd h' 128 6 = Int32.ofNat (b + 1) ∧ rd h' 128 11 = Int32.ofNat (n + 1) ∧ rd h' 128 12 = Int32.ofNat (q + 1) ∧ rdJ h' (pileR h) b = w := by
  have s1 : Sg (wr h 128 6 (Int32.ofNat b)) := hs.wr _ _ _
  have s2 := s1.wr 128 11 (Int32.ofNat (n + 1))
  obtain ⟨h3, e1, e2, e3, e4⟩ := e5_push (h := wr (wr h 128 6 (Int32.ofNat b)) 128 11 (Int32.ofNat (n + 1))) s2 (t := b) (by rw [rd_wr_ne _ _ (by omega), w_128_6 hs]) (by rw [pileN_wr, pileN_wr]; exact hl) N w
  have s3 := e2.sg s2
  have h11 : rd h3 128 11 = Int32.ofNat (n + 1) := by rw [e2.2.2.1 _ _ (by omega), w_128_11 s1]
  have h133 : rd h3 133 n = Int32.ofNat q := by rw [e2.2.2.1 _ _ (by omega), rd_wr_ne _ _ (by omega), rd_wr_ne _ _ (by omega)]; exact hq
  refine ⟨wr h3 128 12 (Int32.ofNat (q + 1)), ?_, (Cg.wr h 6 (Int32.ofNat b) (Or.inl rfl)).trans ((Cg.wr _ 11 (Int32.ofNat (n + 1)) (Or.inr (Or.inl rfl))).trans ((e2.cg (Or.inl rfl)).trans (Cg.wr _ 12 _ (Or.inr (Or.inr rfl))))), ?_, ?_, w_128_12 s3 _, ?_⟩
  · unfold fX5_closeMethod
    rw [if_pos (o_128 hs), R_128_8 hs, Option.bind_some, g_128_11 hs, Option.bind_some, hn, i_sub1, L_134 hs (by omega), Option.bind_some, hb, i_sub1, p_128_6 hs, Option.bind_some, g_128_11 s1, Option.bind_some, rd_wr_ne _ _ (by omega), hn, i_sub1, p_128_11 s1, Option.bind_some, g_128_11 s2, Option.bind_some, w_128_11 s1, if_neg (by rw [iZ (by omega)]; omega), e1, Option.bind_some, R_128_7 s3, Option.bind_some, g_128_11 s3, Option.bind_some, h11, i_sub1, L_133 s3 (by omega), Option.bind_some, h133, i_add1, p_128_12 s3, Option.bind_some]
  · rw [rd_wr_ne _ _ (by omega)]; exact e3
  · rw [rd_wr_ne _ _ (by omega)]; exact h11
  · rw [rdJ_wr]
    rw [pileR_wr, pileR_wr] at e4
    exact e4
