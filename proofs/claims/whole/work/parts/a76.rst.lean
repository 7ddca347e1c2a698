/-! ===== THE REFERENCE'S STATEMENTS, untyped and typed ===== -/
def St (h : pH) (s : Nat) (k : Int32) (p n : Nat) (v : Int32) : Prop := rd h 151 s = k ∧ rd h 152 s = Int32.ofNat p ∧ rd h 153 s = Int32.ofNat n ∧ rd h 154 s = v
/-- the statements, their names as numbers -/
def RBn (P : Pgm) (D : List Int32 → Prop) (num : List Int32 → Nat) (h : pH) : Tr → Option Nat → Nat → Nat → Nat → Prop := foldB (fun o _ _ _ => lnk h o (-1)) (fun _ _ _ _ => False)
  (fun p y w _ R o s n l => lnk h o (Int32.ofNat s) ∧ St h s 0 p n (-1) ∧ (rd h 156 s = tyM num P y ∧ tyD D P y) ∧ (rd h 157 s = Int32.ofNat (num (P.1 w)) ∧ D (P.1 w)) ∧ R (some s) (s + 1) n l)
  (fun p y w e _ R o s n l => lnk h o (Int32.ofNat s) ∧ St h s 0 p n (Int32.ofNat (n + sz e - 1)) ∧ (rd h 156 s = tyM num P y ∧ tyD D P y) ∧ (rd h 157 s = Int32.ofNat (num (P.1 w)) ∧ D (P.1 w)) ∧ RN P D num h e n l ∧ R (some s) (s + 1) (n + sz e) (l + ls e))
  (fun p x e _ R o s n l => lnk h o (Int32.ofNat s) ∧ St h s 8 p n (Int32.ofNat (n + sz x + sz e - 1)) ∧ rd h 155 s = Int32.ofNat (n + sz x - 1) ∧ RN P D num h x n l ∧ RN P D num h e (n + sz x) (l + ls x) ∧ R (some s) (s + 1) (n + sz x + sz e) (l + ls x + ls e))
  (fun p c a A f b B _ R o s n l => lnk h o (Int32.ofNat s) ∧ St h s 1 p n (Int32.ofNat (n + sz c - 1)) ∧ rd h 155 s = Int32.ofNat f ∧ RN P D num h c n l ∧ rd h 159 s = fsB a (s + 1) ∧ A none (s + 1) (n + sz c) (l + ls c) ∧ rd h 160 s = fsB b (s + 1 + stB a) ∧ B none (s + 1 + stB a) (n + sz c + szB a) (l + ls c + lsB a) ∧ R (some s) (s + 1 + stB a + stB b) (n + sz c + szB a + szB b) (l + ls c + lsB a + lsB b))
  (fun p c a A _ R o s n l => lnk h o (Int32.ofNat s) ∧ St h s 2 p n (Int32.ofNat (n + sz c - 1)) ∧ RN P D num h c n l ∧ rd h 159 s = fsB a (s + 1) ∧ A none (s + 1) (n + sz c) (l + ls c) ∧ R (some s) (s + 1 + stB a) (n + sz c + szB a) (l + ls c + lsB a))
  (fun p a A cw w b B _ R o s n l => lnk h o (Int32.ofNat s) ∧ St h s 5 p n (-1) ∧ rd h 159 s = fsB a (s + 1) ∧ A none (s + 1) n l ∧ (rd h 156 s = tyM num P (4 + cw) ∧ D (P.1 cw)) ∧ (rd h 157 s = Int32.ofNat (num (P.1 w)) ∧ D (P.1 w)) ∧ rd h 160 s = fsB b (s + 1 + stB a) ∧ B none (s + 1 + stB a) (n + szB a) (l + lsB a) ∧ R (some s) (s + 1 + stB a + stB b) (n + szB a + szB b) (l + lsB a + lsB b))
  (fun p k e _ R o s n l => lnk h o (Int32.ofNat s) ∧ St h s (sK k) p n (if k = 40 then -1 else Int32.ofNat (n + sz e - 1)) ∧ RN P D num h e n l ∧ R (some s) (s + 1) (n + sz e) (l + ls e))
theorem RBn_nl (P : Pgm) (D : List Int32 → Prop) (num : List Int32 → Nat) (h : pH) (o : Option Nat) (s n l : Nat) : RBn P D num h nl o s n l = lnk h o (-1) := rfl
theorem RBn_tell (P : Pgm) (D : List Int32 → Prop) (num : List Int32 → Nat) (h : pH) (p y w : Nat) (r : Tr) (o : Option Nat) (s n l : Nat) : RBn P D num h (bTell p y w r) o s n l = (lnk h o (Int32.ofNat s) ∧ St h s 0 p n (-1) ∧ (rd h 156 s = tyM num P y ∧ tyD D P y) ∧ (rd h 157 s = Int32.ofNat (num (P.1 w)) ∧ D (P.1 w)) ∧ RBn P D num h r (some s) (s + 1) n l) := rfl
theorem RBn_tellv (P : Pgm) (D : List Int32 → Prop) (num : List Int32 → Nat) (h : pH) (p y w : Nat) (e r : Tr) (o : Option Nat) (s n l : Nat) : RBn P D num h (bTellv p y w e r) o s n l = (lnk h o (Int32.ofNat s) ∧ St h s 0 p n (Int32.ofNat (n + sz e - 1)) ∧ (rd h 156 s = tyM num P y ∧ tyD D P y) ∧ (rd h 157 s = Int32.ofNat (num (P.1 w)) ∧ D (P.1 w)) ∧ RN P D num h e n l ∧ RBn P D num h r (some s) (s + 1) (n + sz e) (l + ls e)) := rfl
theorem RBn_give (P : Pgm) (D : List Int32 → Prop) (num : List Int32 → Nat) (h : pH) (p : Nat) (x e r : Tr) (o : Option Nat) (s n l : Nat) : RBn P D num h (bGive p x e r) o s n l = (lnk h o (Int32.ofNat s) ∧ St h s 8 p n (Int32.ofNat (n + sz x + sz e - 1)) ∧ rd h 155 s = Int32.ofNat (n + sz x - 1) ∧ RN P D num h x n l ∧ RN P D num h e (n + sz x) (l + ls x) ∧ RBn P D num h r (some s) (s + 1) (n + sz x + sz e) (l + ls x + ls e)) := rfl
theorem RBn_ite (P : Pgm) (D : List Int32 → Prop) (num : List Int32 → Nat) (h : pH) (p : Nat) (c a : Tr) (f : Nat) (b r : Tr) (o : Option Nat) (s n l : Nat) : RBn P D num h (bIte p c a f b r) o s n l = (lnk h o (Int32.ofNat s) ∧ St h s 1 p n (Int32.ofNat (n + sz c - 1)) ∧ rd h 155 s = Int32.ofNat f ∧ RN P D num h c n l ∧ rd h 159 s = fsB a (s + 1) ∧ RBn P D num h a none (s + 1) (n + sz c) (l + ls c) ∧ rd h 160 s = fsB b (s + 1 + stB a) ∧ RBn P D num h b none (s + 1 + stB a) (n + sz c + szB a) (l + ls c + lsB a) ∧ RBn P D num h r (some s) (s + 1 + stB a + stB b) (n + sz c + szB a + szB b) (l + ls c + lsB a + lsB b)) := rfl
theorem RBn_whil (P : Pgm) (D : List Int32 → Prop) (num : List Int32 → Nat) (h : pH) (p : Nat) (c a r : Tr) (o : Option Nat) (s n l : Nat) : RBn P D num h (bWhil p c a r) o s n l = (lnk h o (Int32.ofNat s) ∧ St h s 2 p n (Int32.ofNat (n + sz c - 1)) ∧ RN P D num h c n l ∧ rd h 159 s = fsB a (s + 1) ∧ RBn P D num h a none (s + 1) (n + sz c) (l + ls c) ∧ RBn P D num h r (some s) (s + 1 + stB a) (n + sz c + szB a) (l + ls c + lsB a)) := rfl
theorem RBn_try (P : Pgm) (D : List Int32 → Prop) (num : List Int32 → Nat) (h : pH) (p : Nat) (a : Tr) (cw w : Nat) (b r : Tr) (o : Option Nat) (s n l : Nat) : RBn P D num h (bTry p a cw w b r) o s n l = (lnk h o (Int32.ofNat s) ∧ St h s 5 p n (-1) ∧ rd h 159 s = fsB a (s + 1) ∧ RBn P D num h a none (s + 1) n l ∧ (rd h 156 s = tyM num P (4 + cw) ∧ D (P.1 cw)) ∧ (rd h 157 s = Int32.ofNat (num (P.1 w)) ∧ D (P.1 w)) ∧ rd h 160 s = fsB b (s + 1 + stB a) ∧ RBn P D num h b none (s + 1 + stB a) (n + szB a) (l + lsB a) ∧ RBn P D num h r (some s) (s + 1 + stB a + stB b) (n + szB a + szB b) (l + lsB a + lsB b)) := rfl
theorem RBn_k {k : Nat} (hk : k = 40 ∨ k = 41 ∨ k = 42 ∨ k = 43 ∨ k = 52) (P : Pgm) (D : List Int32 → Prop) (num : List Int32 → Nat) (h : pH) (p : Nat) (e r : Tr) (o : Option Nat) (s n l : Nat) : RBn P D num h (nd k p 0 e r) o s n l = (lnk h o (Int32.ofNat s) ∧ St h s (sK k) p n (if k = 40 then -1 else Int32.ofNat (n + sz e - 1)) ∧ RN P D num h e n l ∧ RBn P D num h r (some s) (s + 1) (n + sz e) (l + ls e)) := by
  rcases hk with rfl | rfl | rfl | rfl | rfl <;> rfl
/-- sizes -/
def szK (e : Tr) (st sz' ls' : Nat) : Prop := stB e = st ∧ szB e = sz' ∧ lsB e = ls'
theorem sz_tell (p y w : Nat) (r : Tr) : stB (bTell p y w r) = 1 + stB r ∧ szB (bTell p y w r) = szB r ∧ lsB (bTell p y w r) = lsB r := by
  unfold bTell
  rw [stB_nd, stB_nd, szB_nd, szB_nd, lsB_nd, lsB_nd, if_pos (by omega), if_neg (by omega), if_neg (by omega), if_neg (by omega), if_neg (by omega), if_neg (by omega), if_neg (by omega), if_neg (by omega), sz_nl, ls_nl]
  omega
theorem sz_tellv (p y w : Nat) (e r : Tr) : stB (bTellv p y w e r) = 1 + stB r ∧ szB (bTellv p y w e r) = sz e + szB r ∧ lsB (bTellv p y w e r) = ls e + lsB r := by
  unfold bTellv
  rw [stB_nd, stB_nd, szB_nd, szB_nd, lsB_nd, lsB_nd, if_pos (by omega), if_neg (by omega), if_neg (by omega), if_neg (by omega), if_neg (by omega), if_neg (by omega), if_neg (by omega), if_neg (by omega), sz_nl, ls_nl]
  omega
theorem sz_give (p : Nat) (x e r : Tr) : stB (bGive p x e r) = 1 + stB r ∧ szB (bGive p x e r) = sz x + (sz e + szB r) ∧ lsB (bGive p x e r) = ls x + (ls e + lsB r) := by
  unfold bGive
  rw [stB_nd, stB_nd, szB_nd, szB_nd, lsB_nd, lsB_nd, if_pos (by omega), if_neg (by omega), if_neg (by omega), if_neg (by omega), if_neg (by omega), if_neg (by omega), if_neg (by omega), if_neg (by omega)]
  omega
theorem sz_k {k : Nat} (hk : k = 40 ∨ k = 41 ∨ k = 42 ∨ k = 43 ∨ k = 52) (p : Nat) (e r : Tr) : stB (nd k p 0 e r) = 1 + stB r ∧ szB (nd k p 0 e r) = sz e + szB r ∧ lsB (nd k p 0 e r) = ls e + lsB r := by
  rw [stB_nd, szB_nd, lsB_nd, if_pos (by omega), if_neg (by omega), if_neg (by omega), if_neg (by omega)]
  omega
theorem sz_ite (p : Nat) (c a : Tr) (f : Nat) (b r : Tr) : stB (bIte p c a f b r) = 1 + stB a + stB b + stB r ∧ szB (bIte p c a f b r) = sz c + szB a + szB b + szB r ∧ lsB (bIte p c a f b r) = ls c + lsB a + lsB b + lsB r := by
  unfold bIte
  rw [stB_nd, stB_nd, stB_nd, szB_nd, szB_nd, szB_nd, lsB_nd, lsB_nd, lsB_nd]
  simp only [show (38 < 80) = True from eq_true (by omega), show (80 < 80) = False from eq_false (by omega), show (81 < 80) = False from eq_false (by omega), show (38 = 80 ∨ 38 = 81) = False from eq_false (by omega), show (80 = 80 ∨ 80 = 81) = True from eq_true (by omega), show (81 = 80 ∨ 81 = 81) = True from eq_true (by omega), true_or, or_true, if_true, if_false]
  omega
theorem sz_whil (p : Nat) (c a r : Tr) : stB (bWhil p c a r) = 1 + stB a + stB r ∧ szB (bWhil p c a r) = sz c + szB a + szB r ∧ lsB (bWhil p c a r) = ls c + lsB a + lsB r := by
  unfold bWhil
  rw [stB_nd, stB_nd, szB_nd, szB_nd, lsB_nd, lsB_nd]
  simp only [show (39 < 80) = True from eq_true (by omega), show (80 < 80) = False from eq_false (by omega), show (39 = 80 ∨ 39 = 81) = False from eq_false (by omega), show (80 = 80 ∨ 80 = 81) = True from eq_true (by omega), true_or, or_true, if_true, if_false]
  omega
theorem sz_try (p : Nat) (a : Tr) (cw w : Nat) (b r : Tr) : stB (bTry p a cw w b r) = 1 + stB a + stB b + stB r ∧ szB (bTry p a cw w b r) = szB a + szB b + szB r ∧ lsB (bTry p a cw w b r) = lsB a + lsB b + lsB r := by
  unfold bTry
  rw [stB_nd, stB_nd, stB_nd, stB_nd, szB_nd, szB_nd, szB_nd, szB_nd, lsB_nd, lsB_nd, lsB_nd, lsB_nd]
  simp only [show (58 < 80) = True from eq_true (by omega), show (80 < 80) = False from eq_false (by omega), show (84 < 80) = False from eq_false (by omega), show (81 < 80) = False from eq_false (by omega), show (58 = 80 ∨ 58 = 81) = False from eq_false (by omega), show (84 = 80 ∨ 84 = 81) = False from eq_false (by omega), show (80 = 80 ∨ 80 = 81) = True from eq_true (by omega), show (81 = 80 ∨ 81 = 81) = True from eq_true (by omega), true_or, or_true, if_true, if_false, sz_nl, ls_nl]
  omega
theorem Ox.sz1 {S : Tks} {e : Tr} (h : Ox S e) : 1 ≤ sz e := by
  obtain ⟨k, v, w, a, b, he, h1, h2⟩ := h.nd
  rw [he, sz_nd, if_neg (by omega)]
  omega
theorem RB.rbn {S : Tks} {T : Txt} {h : pH} (cs : List Cl) (hi : nmInj h) : ∀ (m : Nat) (e : Tr) (o : Option Nat) (s n l : Nat), GK S m e → RB T h e o s n l → RBn (tkW T, cs) (rD h) (rnum h) h e o s n l
  | 0, e, o, s, n, l, hk, q => by
    rw [show e = nl from hk] at q ⊢
    exact q
  | m + 1, e, o, s, n, l, hk, q => by
    have IH := fun e o s n l => RB.rbn (S := S) (T := T) (h := h) cs hi m e o s n l
    rcases hk with rfl | ⟨p, y, w, r, rfl, g1, g2, hr⟩ | ⟨p, y, w, x, r, rfl, g1, g2, g3, hr⟩ | ⟨p, k, x, r, rfl, hk, hr⟩ | ⟨p, x, y, r, rfl, g1, g2, g3, hr⟩ | ⟨p, x, a, f, b, r, rfl, hf, g1, ha, hb, hr⟩ | ⟨p, x, a, r, rfl, g1, ha, hr⟩ | ⟨p, a, cw, w, b, r, rfl, g1, g2, ha, hb, hr⟩
    · exact q
    · rw [RBn_tell]
      unfold bTell at q
      rw [RB_nd, if_pos (by omega), RB_nd, if_neg (by omega), if_neg (by omega)] at q
      obtain ⟨q1, q2, q3, q4, q5, q6⟩ := q
      obtain ⟨s1, s2, s3, s4, s5, s6⟩ := q2
      have ty := (q4.2.2.1 rfl).num hi cs
      have nm := (s6 (Or.inl rfl)).num hi
      exact ⟨q1, ⟨s1, s2, s3, s4 (by omega)⟩, ⟨ty.2, ty.1⟩, ⟨nm.2, nm.1⟩, IH _ _ _ _ _ hr q6⟩
    · have z1 := g3.sz1
      rw [RBn_tellv]
      unfold bTellv at q
      rw [RB_nd, if_pos (by omega), RB_nd, if_neg (by omega), if_neg (by omega)] at q
      obtain ⟨q1, q2, q3, q4, q5, q6⟩ := q
      obtain ⟨s1, s2, s3, s4, s5, s6⟩ := q2
      have ty := (q4.2.2.1 rfl).num hi cs
      have nm := (s6 (Or.inr rfl)).num hi
      have s4 := s4 (by omega)
      rw [if_neg (by omega)] at s4
      exact ⟨q1, ⟨s1, s2, s3, s4⟩, ⟨ty.2, ty.1⟩, ⟨nm.2, nm.1⟩, NE.rn cs hi _ _ _ q3, IH _ _ _ _ _ hr q6⟩
    · rw [RBn_k (GKk hk)]
      rw [RB_nd, if_pos (by have := GKk hk; omega)] at q
      obtain ⟨q1, q2, q3, q4⟩ := q
      obtain ⟨s1, s2, s3, s4, s5, s6⟩ := q2
      have s9 := s4 (by have := GKk hk; omega)
      clear s4
      refine ⟨q1, ⟨s1, s2, s3, ?_⟩, NE.rn cs hi _ _ _ q3, IH _ _ _ _ _ hr q4⟩
      rcases hk with ⟨rfl, rfl⟩ | ⟨hk, ox⟩
      · exact s9
      · have := ox.sz1
        rw [if_neg (by omega)] at s9
        rw [if_neg (by omega)]
        exact s9
    · have z1 := g2.sz1
      have z2 := g3.sz1
      rw [RBn_give]
      unfold bGive at q
      rw [RB_nd, if_pos (by omega), RB_nd, if_neg (by omega), if_neg (by omega)] at q
      obtain ⟨q1, q2, q3, q4, q5, q6⟩ := q
      obtain ⟨s1, s2, s3, s4, s5, s6⟩ := q2
      rw [if_pos rfl] at s5
      exact ⟨q1, ⟨s1, s2, s3, q4.2.2.2.1 rfl⟩, s5, NE.rn cs hi _ _ _ q3, NE.rn cs hi _ _ _ q5, IH _ _ _ _ _ hr q6⟩
    · have z1 := g1.sz1
      rw [RBn_ite]
      unfold bIte at q
      rw [RB_nd, if_pos (by omega), RB_nd, if_neg (by omega), if_pos (by omega), RB_nd, if_neg (by omega), if_pos (by omega)] at q
      obtain ⟨q1, q2, q3, q4, q5, q6, q7, q8⟩ := q
      obtain ⟨s1, s2, s3, s4, s5, s6⟩ := q2
      have s4 := s4 (by omega)
      rw [if_neg (by omega)] at s4
      rw [if_neg (by omega), if_pos rfl] at s5
      exact ⟨q1, ⟨s1, s2, s3, s4⟩, s5, NE.rn cs hi _ _ _ q3, q4.1 rfl, IH _ _ _ _ _ ha q5, q6.2.1 rfl, IH _ _ _ _ _ hb q7, IH _ _ _ _ _ hr q8⟩
    · have z1 := g1.sz1
      rw [RBn_whil]
      unfold bWhil at q
      rw [RB_nd, if_pos (by omega), RB_nd, if_neg (by omega), if_pos (by omega)] at q
      obtain ⟨q1, q2, q3, q4, q5, q6⟩ := q
      obtain ⟨s1, s2, s3, s4, s5, s6⟩ := q2
      have s4 := s4 (by omega)
      rw [if_neg (by omega)] at s4
      exact ⟨q1, ⟨s1, s2, s3, s4⟩, NE.rn cs hi _ _ _ q3, q4.1 rfl, IH _ _ _ _ _ ha q5, IH _ _ _ _ _ hr q6⟩
    · rw [RBn_try]
      unfold bTry at q
      rw [RB_nd, if_pos (by omega), RB_nd, if_neg (by omega), if_pos (by omega), RB_nd, if_neg (by omega), if_neg (by omega), RB_nd, if_neg (by omega), if_pos (by omega)] at q
      obtain ⟨q1, q2, q3, q4, q5, q6, q7, q8, q9, q10⟩ := q
      obtain ⟨s1, s2, s3, s4, s5, s6⟩ := q2
      obtain ⟨t1, t2⟩ := q6.2.2.2.2 rfl
      have ty := t1.num hi cs
      have nm := t2.num hi
      have hcw : rD h (tkW T cw) := by
        have := ty.1.resolve_left (by omega)
        rw [show 4 + cw - 4 = cw by omega] at this
        exact this
      exact ⟨q1, ⟨s1, s2, s3, s4 (by omega)⟩, q4.1 rfl, IH _ _ _ _ _ ha q5, ⟨ty.2, hcw⟩, ⟨nm.2, nm.1⟩, q8.2.1 rfl, IH _ _ _ _ _ hb q9, IH _ _ _ _ _ hr q10⟩
