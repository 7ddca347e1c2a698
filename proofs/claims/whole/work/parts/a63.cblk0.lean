/-! ===== THE CLASS' TYPER: helps for rows of statements ===== -/
theorem GK.ok {S : Tks} : ∀ {n : Nat} {e : Tr}, GK S n e → OkB n e
  | 0, e, h => h
  | n + 1, e, h => by
    rcases h with h | ⟨p, y, w, r, h1, _, _, h2⟩ | ⟨p, y, w, x, r, h1, _, _, _, h2⟩ | ⟨p, k, x, r, h1, h2, h3⟩ | ⟨p, x, y, r, h1, h2, _, _, h3⟩ | ⟨p, x, a, h, b, r, h1, h2, _, h3, h4, h5⟩ | ⟨p, x, a, r, h1, _, h2, h3⟩ | ⟨p, a, c, w, b, r, h1, _, _, h2, h3, h4⟩
    · exact Or.inl h
    · exact Or.inr (Or.inl ⟨p, y, w, r, h1, h2.ok⟩)
    · exact Or.inr (Or.inr (Or.inl ⟨p, y, w, x, r, h1, h2.ok⟩))
    · rcases h2 with ⟨rfl, rfl⟩ | ⟨rfl | rfl | rfl | ⟨rfl, h4⟩, _⟩
      · exact Or.inr (Or.inr (Or.inr (Or.inl ⟨p, r, h1, h3.ok⟩)))
      · exact Or.inr (Or.inr (Or.inr (Or.inr (Or.inl ⟨p, 41, x, r, h1, Or.inl rfl, h3.ok⟩))))
      · exact Or.inr (Or.inr (Or.inr (Or.inr (Or.inl ⟨p, 42, x, r, h1, Or.inr (Or.inl rfl), h3.ok⟩))))
      · exact Or.inr (Or.inr (Or.inr (Or.inr (Or.inl ⟨p, 43, x, r, h1, Or.inr (Or.inr rfl), h3.ok⟩))))
      · exact Or.inr (Or.inr (Or.inr (Or.inr (Or.inr (Or.inl ⟨p, x, r, h1, h4, h3.ok⟩)))))
    · exact Or.inr (Or.inr (Or.inr (Or.inr (Or.inr (Or.inr (Or.inl ⟨p, x, y, r, h1, h2, h3.ok⟩))))))
    · exact Or.inr (Or.inr (Or.inr (Or.inr (Or.inr (Or.inr (Or.inr (Or.inl ⟨p, x, a, h, b, r, h1, h2, h3.ok, h4.ok, h5.ok⟩)))))))
    · exact Or.inr (Or.inr (Or.inr (Or.inr (Or.inr (Or.inr (Or.inr (Or.inr (Or.inl ⟨p, x, a, r, h1, h2.ok, h3.ok⟩))))))))
    · exact Or.inr (Or.inr (Or.inr (Or.inr (Or.inr (Or.inr (Or.inr (Or.inr (Or.inr ⟨p, a, c, w, b, r, h1, h2.ok, h3.ok, h4.ok⟩))))))))
/-- the pieces from lo on to below hi are the same -/
def Kp (lo hi : Nat) (h h' : pH) : Prop := ∀ a i, 39 ≤ a → a ≤ 45 → lo ≤ i → i < hi → rd h' a i = rd h a i
theorem Kp.trans {lo hi lo' hi' : Nat} {h h1 h2 : pH} (p : Kp lo hi h h1) (q : Kp lo' hi' h1 h2) (l1 : lo' ≤ lo) (l2 : hi ≤ hi') : Kp lo hi h h2 := fun a i i1 i2 i3 i4 => (q a i i1 i2 (by omega) (by omega)).trans (p a i i1 i2 i3 i4)
theorem Kp.sub {lo hi lo' hi' : Nat} {h h1 : pH} (p : Kp lo hi h h1) (l1 : lo ≤ lo') (l2 : hi' ≤ hi) : Kp lo' hi' h h1 := fun a i i1 i2 i3 i4 => p a i i1 i2 (by omega) (by omega)
theorem Kp.of {s t d lo hi : Nat} {h h' : pH} (g : Chg (svA s t d) h h') (hd : hi ≤ s ∨ t ≤ lo) : Kp lo hi h h' := fun a i i1 i2 i3 i4 => g.2.2.1 _ _ (by unfold svA exA pyA; omega)
theorem QC.kp {C : Cx} {p o : Int32} {lo hi i k v w g : Nat} {h h' : pH} (q : QC C p o h i k v w g) (kp : Kp lo hi h h') (h1 : lo ≤ i) (h2 : i < hi) : QC C p o h' i k v w g := by
  obtain ⟨z1, z2, z3, z4, z5, z6⟩ := q
  exact ⟨by rw [kp _ _ (by omega) (by omega) h1 h2]; exact z1, by rw [kp _ _ (by omega) (by omega) h1 h2]; exact z2, by rw [kp _ _ (by omega) (by omega) h1 h2]; exact z3, by rw [kp _ _ (by omega) (by omega) h1 h2]; exact z4, by rw [kp _ _ (by omega) (by omega) h1 h2]; exact z5, by rw [kp _ _ (by omega) (by omega) h1 h2]; exact z6⟩
theorem CB.kp {S : Tks} {C : Cx} {n lo hi s : Nat} {e : Tr} {o : Int32} {h h' : pH} (hk : GK S n e) (q : CB (QC5 C h) e s o) (kp : Kp lo hi h h') (h1 : lo ≤ s) (h2 : s + cb e ≤ hi) : CB (QC5 C h') e s o := CB.mono n e s o hk.ok (fun p o i k v w g i1 i2 z => QC.kp z kp (by omega) (by omega)) q
theorem CE.kp {C : Cx} {p o : Int32} {lo hi s : Nat} {e : Tr} {h h' : pH} (q : CE (QC C p o h) e s) (kp : Kp lo hi h h') (h1 : lo ≤ s) (h2 : s + cl e ≤ hi) : CE (QC C p o h') e s := CE.mono e s (fun i k v w g i1 i2 z => QC.kp z kp (by omega) (by omega)) q
theorem CE.qo {C : Cx} {p o : Int32} {s : Nat} {e : Tr} {h h' : pH} (q : CE (QC C p o h) e s) (hr : ∀ i, s ≤ i → i < s + cl e → rd h' 41 i = rd h 41 i ∧ rd h' 42 i = rd h 42 i ∧ rd h' 45 i = rd h 45 i) : CE (Qo C o h') e s := CE.mono e s (fun i k v w g i1 i2 z => by
  obtain ⟨z1, z2, z3, z4, z5, z6⟩ := z
  obtain ⟨r1, r2, r3⟩ := hr i i1 i2
  exact ⟨by rw [r1]; exact z3, by rw [r2]; exact z4, by rw [r3]; exact z6⟩) q
theorem TC.kp {S : Tks} {P : Pgm} {C : Cx} {c mt M M' X X' n s lo hi : Nat} {e : Tr} {E : EnvV} {o : Int32} {h h' : pH} (hk : GK S n e) (q : TC P C c mt M X h e E s o) (kp : Kp lo hi h h') (h1 : lo ≤ s) (h2 : s + cb e ≤ hi) (hM : M ≤ M') (hX : X ≤ X') : TC P C c mt M' X' h' e E s o := TC.mono hM hX n e E s o hk (fun a i i1 i2 i3 i4 => kp a i i1 i2 (by omega) (by omega)) q
theorem TE.kp {P : Pgm} {C : Cx} {c X X' s lo hi : Nat} {e : Tr} {E : EnvV} {o : Int32} {h h' : pH} (q : TE P C c X h E e s o) (kp : Kp lo hi h h') (h1 : lo ≤ s) (h2 : s + cl e ≤ hi) (hX : X ≤ X') : TE P C c X' h' E e s o := q.mono hX (fun a i i1 i2 i3 i4 => kp a i i1 i2 (by omega) (by omega))
theorem Tp.kp {h h' : pH} {i g n lo hi : Nat} {k o : Int32} (q : Tp h i k g o n) (kp : Kp lo hi h h') (h1 : lo ≤ i) (h2 : i < hi) : Tp h' i k g o n := q.mono (fun a i1 i2 => kp a i i1 i2 h1 h2)
theorem Ts.kp {h h' : pH} {i k g lo hi : Nat} (q : Ts h i k g) (kp : Kp lo hi h h') (h1 : lo ≤ i) (h2 : i < hi) : Ts h' i k g := q.mono (fun a i1 i2 => kp a i i1 i2 h1 h2)
theorem FnL.z {P : Pgm} {D : List Int32 → Prop} {num : List Int32 → Nat} {M X d dr i : Nat} {Z Z' : pH → Prop} {o : Option EnvV} {x : Option (Int32 × pH)} {h : pH} (q : FnL P D num M X d dr i Z o x h) (hz : ∀ h', Z h' → Z' h') : FnL P D num M X d dr i Z' o x h := by
  cases o with
  | none => exact q
  | some l =>
    obtain ⟨h', M', e, r1, r2, r3, r4, r5, r6⟩ := q
    exact ⟨h', M', e, r1, r2, r3, r4, hz h' r5, r6⟩
theorem tyc_of {S : Tks} {P : Pgm} {D : List Int32 → Prop} {num : List Int32 → Nat} {C : Cx} {y : Nat} (hC : ∀ w, S.K w = 22 → D (P.1 w) ∧ C.2.1 w = Int32.ofNat (num (P.1 w))) (hy : tyW S y) : tyD D P y ∧ tyc C y = tyN num P y := by
  rcases hy with hy | ⟨h4, hk⟩
  · refine ⟨Or.inl (by omega), ?_⟩
    unfold tyN
    rw [if_pos (by omega)]
    have : y = 0 ∨ y = 1 ∨ y = 2 := by omega
    rcases this with rfl | rfl | rfl <;> rfl
  · obtain ⟨w1, w2⟩ := hC _ hk
    refine ⟨Or.inr w1, ?_⟩
    unfold tyN tyc
    rw [if_neg (by omega), if_neg (by omega), if_neg (by omega), if_neg (by omega), if_neg (by omega), w2]
/-- an expression's pieces and the statement's last -/
theorem TB.stm1 {C : Cx} {P : Pgm} {D : List Int32 → Prop} {num : List Int32 → Nat} {c mt M X N n s e k p d dr v w g : Nat} {E : EnvV} {x : Tr} {o v1 v2 : Int32} {O : Option EnvV} {Z : pH → Prop} {k2 : Nat → Int32 → pH → Option (Int32 × pH)} {k23 : Nat → Int32 → Int32 → pH → Option (Int32 × pH)} {h : pH} (q : TB P D num c mt E M X d h) (rx : RunX P D num C c E M N (Int32.ofNat p) o v1 v2 k2 k23 e x) (ce : CE (QC C (Int32.ofNat p) o h) x s) (pc : QC C (Int32.ofNat p) o h (s + cl x) k v w g) (hs : s + cl x ≤ e) (he : e < 3000) (hO : P.te c E x = none → O = none) (F : ∀ r h1 X1, P.te c E x = some r → TS P D num c E M ([] ++ r) X1 h1 → rd h1 51 8 = ctI mt → rd h1 52 11 = Int32.ofNat d → Chg (fun a k => exA s (s + cl x) a k ∨ (a = 44 ∧ k = s + cl x)) h h1 → FnL P D num M X1 d dr (s + cl x) Z O (fX9_isFine N 51 (Int32.ofNat (s + cl x)) (Int32.ofNat k) h1) h1) : BlS P D num c mt M X d dr s (s + cl x + 1) (fun M' X' h' => TE P C c X' h' E x s o ∧ Z h' ∧ rd h' 42 (s + cl x) = Int32.ofNat g ∧ rd h' 45 (s + cl x) = o ∧ rd h' 44 (s + cl x) = Int32.ofNat E.1.length) (oS p O) (fX9_check_79 N k2 k23 (n + (cl x + 1)) 51 v1 v2 (Int32.ofNat e) (Int32.ofNat s) h) (fX9_check_79 N k2 k23 n 51 v1 v2 (Int32.ofNat e) (Int32.ofNat (s + cl x + 1))) h := by
  obtain ⟨q1, q2, q3⟩ := q
  have A := rx s [] X h (n + 1) q1 ce (by omega) (by show 0 + cl x ≤ 3000; omega)
  rw [show n + (cl x + 1) = n + 1 + cl x by omega]
  cases hx : P.te c E x with
  | none =>
    rw [hx] at A
    rw [hO hx]
    exact A
  | some r =>
    rw [hx] at A
    obtain ⟨h1, X1, a1, a2, a3, a4, a5⟩ := A
    rw [a1]
    obtain ⟨d1, d2, d3, d4, d5, d6⟩ := PcAt.chg pc a5 (fun x x1 x2 => by unfold exA pyA; omega)
    have r8 : rd h1 51 8 = ctI mt := by rw [a5.2.2.1 _ _ (by unfold exA pyA; omega)]; exact q2
    have r11 : rd h1 52 11 = Int32.ofNat d := by rw [a5.2.2.1 _ _ (by unfold exA pyA; omega)]; exact q3
    have gw : Chg (exA (s + cl x) (s + cl x + 1)) h1 (wr h1 44 (s + cl x) (rd h1 52 2)) := Chg.wr _ _ _ _ (by unfold exA; omega)
    have gw4 : Chg (fun a k => a = 44 ∧ k = s + cl x) h1 (wr h1 44 (s + cl x) (rd h1 52 2)) := Chg.wr _ _ _ _ ⟨rfl, rfl⟩
    have L := TS.last (N := N) (n := n) (p := p) (v1 := v1) (v2 := v2) (k2 := k2) (k23 := k23) a2 r8 hs (by omega) d1 (fun _ => d5) (F r _ X1 hx (a2.of gw (a2.2.2.1.chg gw4 (fun a k z => by omega))) (by rw [rd_wr_ne _ _ (by omega)]; exact r8) (by rw [rd_wr_ne _ _ (by omega)]; exact r11) ((a5.mono (fun a k z => Or.inl z)).trans (gw4.mono (fun a k z => Or.inr z))))
    cases O with
    | none =>
      obtain ⟨h2, f1, f2⟩ := L
      exact ⟨h2, f1, (a5.mono exA.ty).trans f2⟩
    | some E' =>
      obtain ⟨h2, M2, X2, f1, f2, f3, f4, f5, f6⟩ := L
      refine ⟨h2, M2, X2, f1, f2, f3, by omega, ⟨⟨TX.mono x s (fun i k v w l i1 i2 z => ?_) a4.1, CE.qo ce (fun i i1 i2 => ⟨?_, ?_, ?_⟩), HX.mono f4 _ _ a4.2⟩, f5.1, ?_, ?_, f5.2⟩, (a5.mono (fun a k z => (exA.st z).mono (Nat.le_refl _) (by omega) (Nat.le_refl _))).trans (f6.mono (fun a k z => z.mono (by omega) (Nat.le_refl _) (Nat.le_refl _)))⟩
      · obtain ⟨z1, z2, z3⟩ := z
        exact ⟨by rw [f6.2.2.1 _ _ (by unfold svA exA pyA; omega)]; exact z1, by rw [f6.2.2.1 _ _ (by unfold svA exA pyA; omega)]; exact z2, by rw [f6.2.2.1 _ _ (by unfold svA exA pyA; omega)]; exact z3⟩
      · rw [f6.2.2.1 _ _ (by unfold svA exA pyA; omega), a5.2.2.1 _ _ (by unfold exA pyA; omega)]
      · rw [f6.2.2.1 _ _ (by unfold svA exA pyA; omega), a5.2.2.1 _ _ (by unfold exA pyA; omega)]
      · rw [f6.2.2.1 _ _ (by unfold svA exA pyA; omega), a5.2.2.1 _ _ (by unfold exA pyA; omega)]
      · rw [f6.2.2.1 _ _ (by unfold svA exA pyA; omega)]; exact d4
      · rw [f6.2.2.1 _ _ (by unfold svA exA pyA; omega)]; exact d6
/-- a row of statements run -/
def RunB (S : Tks) (P : Pgm) (D : List Int32 → Prop) (num : List Int32 → Nat) (C : Cx) (c mt N : Nat) (v1 v2 : Int32) (k2 : Nat → Int32 → pH → Option (Int32 × pH)) (k23 : Nat → Int32 → Int32 → pH → Option (Int32 × pH)) (en : Nat) (e : Tr) : Prop := ∀ (E : EnvV) (s M X d f : Nat) (o : Int32) (h : pH), TB P D num c mt E M X d h → CB (QC5 C h) e s o → s + cb e ≤ en + 1 → d + dp e ≤ 31 → E.1.length + nv e ≤ 999 → BlS P D num c mt M X d d s (s + cb e) (fun M' X' h' => TC P C c mt M' X' h' e E s o) (P.chk c mt e E) (fX9_check_79 N k2 k23 (f + cb e) 51 v1 v2 (Int32.ofNat en) (Int32.ofNat s) h) (fX9_check_79 N k2 k23 f 51 v1 v2 (Int32.ofNat en) (Int32.ofNat (s + cb e))) h
theorem BlS.seq {S : Tks} {C : Cx} {P : Pgm} {D : List Int32 → Prop} {num : List Int32 → Nat} {c mt M X N n s t f p d en : Nat} {r : Tr} {o v1 v2 : Int32} {O : Option EnvV} {Z1 Z2 : Nat → Nat → pH → Prop} {k2 : Nat → Int32 → pH → Option (Int32 × pH)} {k23 : Nat → Int32 → Int32 → pH → Option (Int32 × pH)} {x : Option (Int32 × pH)} {h : pH} (hr : GK S n r) (RB : RunB S P D num C c mt N v1 v2 k2 k23 en r) (A : BlS P D num c mt M X d d s t Z1 (oS p O) x (fX9_check_79 N k2 k23 (f + cb r) 51 v1 v2 (Int32.ofNat en) (Int32.ofNat t)) h) (hst : s ≤ t) (cr : CB (QC5 C h) r t o) (hb : t + cb r ≤ en + 1) (hd : d + dp r ≤ 31) (hv : ∀ E', O = some E' → E'.1.length + nv r ≤ 999) (hZ : ∀ E' M1 X1 h1 M2 X2 h2, O = some E' → Z1 M1 X1 h1 → M1 ≤ M2 → X1 ≤ X2 → Kp s t h1 h2 → E'.1.length ≤ M1 → TC P C c mt M2 X2 h2 r E' t o → Z2 M2 X2 h2) : BlS P D num c mt M X d d s (t + cb r) Z2 (sB (oS p O) (P.chk c mt r)) x (fX9_check_79 N k2 k23 f 51 v1 v2 (Int32.ofNat en) (Int32.ofNat (t + cb r))) h := by
  refine BlS.bind (by omega) A (fun E' h1 M1 X1 hE tb m1 x1 z g => ?_)
  have hO := oS_inr hE
  exact (RB E' t M1 X1 d f o h1 tb (CB.kp hr cr (Kp.of (lo := t) (hi := t + cb r) g (Or.inr (Nat.le_refl _))) (Nat.le_refl _) (Nat.le_refl _)) hb hd (hv E' hO)).low hst (Nat.le_refl _) (Nat.le_refl _) (fun E2 M2 X2 h2 _ m2 x2 _ z2 g2 => hZ E' M1 X1 h1 M2 X2 h2 hO z m2 x2 (Kp.of g2 (Or.inl (Nat.le_refl _))) tb.1.2.1.2.2.1 z2)
