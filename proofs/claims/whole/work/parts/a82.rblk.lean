/-! ===== THE REFERENCE'S TYPER: blocks ===== -/
def EnvV.cut (E E' : EnvV) : EnvV := (E.1, E'.2.1, E'.2.2)
theorem RSc.cut {P : Pgm} {D : List Int32 → Prop} {num : List Int32 → Nat} {E E' : EnvV} {h : pH} (hs : Sg h) (q : RSc P D num E' h) (p : Pfx E E') : RSc P D num (E.cut E') (wr h 138 62 (Int32.ofNat E.1.length)) := by
  obtain ⟨q1, q2, q3, q4, q5⟩ := q
  have hl := p.le
  refine ⟨w_138_62 hs _, by show E.1.length < 1000; omega, fun i x hx => ?_, by rw [rd_wr_ne _ _ (by omega)]; exact q4, fun i hi => ?_⟩
  · obtain ⟨a1, a2, a3, a4⟩ := q3 i x (p.get hx)
    exact ⟨a1, by rw [rd_wr_ne _ _ (by omega)]; exact a2, by rw [rd_wr_ne _ _ (by omega)]; exact a3, a4⟩
  · have hi : i < E.1.length := hi
    obtain ⟨b, b1, b2⟩ := q5 i (by omega)
    exact ⟨b, by rw [rd_wr_ne _ _ (by omega)]; exact b1, b2⟩
/-- what is set stays set -/
def EnvV.grow (E E' : EnvV) : Prop := (E.2.1 = true → E'.2.1 = true) ∧ ∀ i, i < E.1.length → E.isS i = true → E'.isS i = true
theorem EnvV.grow_refl (E : EnvV) : E.grow E := ⟨fun z => z, fun _ _ z => z⟩
theorem EnvV.grow_trans {E E1 E2 : EnvV} (h : E.1.length ≤ E1.1.length) (p : E.grow E1) (q : E1.grow E2) : E.grow E2 := ⟨fun z => q.1 (p.1 z), fun i hi z => q.2 i (by omega) (p.2 i hi z)⟩
theorem EnvV.grow_add (E : EnvV) (w : List Int32) (t : Nat) (s : Bool) : E.grow (E.add w t s) := by
  refine ⟨fun z => z, fun i hi z => ?_⟩
  show (E.2.1 || (if i = E.1.length then s else E.2.2 i)) = true
  rw [if_neg (by omega)]
  exact z
theorem EnvV.grow_give (E : EnvV) (j : Nat) : E.grow (E.give j) := by
  refine ⟨fun z => z, fun i hi z => ?_⟩
  show (E.2.1 || (if i = j then true else E.2.2 i)) = true
  by_cases y : i = j
  · rw [if_pos y, Bool.or_true]
  · rw [if_neg y]; exact z
theorem EnvV.grow_stop (E : EnvV) : E.grow E.stop := ⟨fun _ => rfl, fun i hi z => rfl⟩
theorem EnvV.grow_join {E E1 E2 : EnvV} (p : E.grow E1) (q : E.grow E2) : E.grow (E.join E1 E2) := by
  refine ⟨fun z => ?_, fun i hi z => ?_⟩
  · show (E1.2.1 && E2.2.1) = true
    rw [p.1 z, q.1 z]; rfl
  · show (E1.2.1 && E2.2.1 || (E1.isS i && E2.isS i)) = true
    rw [p.2 i hi z, q.2 i hi z, Bool.and_self, Bool.or_true]
theorem Pgm.chk_grow {S : Tks} {P : Pgm} {c mt : Nat} : ∀ (n : Nat) (e : Tr) (E E' : EnvV), GK S n e → P.chk c mt e E = .inr E' → E.grow E'
  | 0, e, E, E', hk, h => by
    rw [show e = nl from hk] at h
    injection h with h
    rw [h]
    exact EnvV.grow_refl _
  | n + 1, e, E, E', hk, h => by
    have PX := fun e E E' hk h => (Pgm.chk_pfx (S := S) (P := P) (c := c) (mt := mt) n e E E' hk h).1.le
    rcases hk with rfl | ⟨p, y, w, r, rfl, _, _, hr⟩ | ⟨p, y, w, x, r, rfl, _, _, _, hr⟩ | ⟨p, k, x, r, rfl, hk, hr⟩ | ⟨p, x, y, r, rfl, _, _, _, hr⟩ | ⟨p, x, a, f, b, r, rfl, hf, _, ha, hb, hr⟩ | ⟨p, x, a, r, rfl, _, ha, hr⟩ | ⟨p, a, cw, w, b, r, rfl, _, _, ha, hb, hr⟩
    · injection h with h
      rw [h]
      exact EnvV.grow_refl _
    · rw [Pgm.chk_tell] at h
      obtain ⟨E1, h1, h2⟩ := sB_inr h
      obtain ⟨rfl, _⟩ := Pgm.tlX_some (oS_inr h1)
      exact EnvV.grow_trans (by rw [EnvV.add_len]; omega) (EnvV.grow_add _ _ _ _) (Pgm.chk_grow n r _ _ hr h2)
    · rw [Pgm.chk_tellv] at h
      obtain ⟨E1, h1, h2⟩ := sB_inr h
      obtain ⟨t, _, _, h3⟩ := Pgm.tvE_some (oS_inr h1)
      obtain ⟨rfl, _⟩ := Pgm.tlX_some h3
      exact EnvV.grow_trans (by rw [EnvV.add_len]; omega) (EnvV.grow_add _ _ _ _) (Pgm.chk_grow n r _ _ hr h2)
    · rw [Pgm.chk_k (GKk hk)] at h
      obtain ⟨E1, h1, h2⟩ := sB_inr h
      obtain ⟨h3, h4⟩ := Pgm.wkE_some (oS_inr h1)
      refine EnvV.grow_trans (by rw [h3]; exact Nat.le_refl _) ?_ (Pgm.chk_grow n r _ _ hr h2)
      rcases h4 with h4 | h4
      · rw [h4]; exact EnvV.grow_refl _
      · rw [h4]; exact EnvV.grow_stop _
    · rw [Pgm.chk_give] at h
      obtain ⟨E1, h1, h2⟩ := sB_inr h
      obtain ⟨l, t, _, _, h4⟩ := Pgm.gvE_some (oS_inr h1)
      obtain ⟨h3, h5⟩ := Pgm.gvX_some h4
      refine EnvV.grow_trans (by rw [h3]; exact Nat.le_refl _) ?_ (Pgm.chk_grow n r _ _ hr h2)
      rcases h5 with h5 | ⟨i, _, h5⟩
      · rw [h5]; exact EnvV.grow_refl _
      · rw [h5]; exact EnvV.grow_give _ _
    · rw [Pgm.chk_ite] at h
      obtain ⟨E0, _, h⟩ := sB_inr h
      obtain ⟨E1, h1, h2⟩ := sB_inr h
      split at h2
      · obtain ⟨E2, h3, h4⟩ := sB_inr h2
        exact EnvV.grow_trans (E1 := E.join E1 E2) (Nat.le_refl _) (EnvV.grow_join (Pgm.chk_grow n a _ _ ha h1) (Pgm.chk_grow n b _ _ hb h3)) (Pgm.chk_grow n r _ _ hr h4)
      · exact Pgm.chk_grow n r _ _ hr h2
    · rw [Pgm.chk_whil] at h
      obtain ⟨E0, _, h⟩ := sB_inr h
      obtain ⟨E1, h1, h2⟩ := sB_inr h
      exact Pgm.chk_grow n r _ _ hr h2
    · rw [Pgm.chk_try] at h
      obtain ⟨E1, h1, h2⟩ := sB_inr h
      obtain ⟨E0, h0, h3⟩ := sB_inr h2
      obtain ⟨E2, h5, h4⟩ := sB_inr h3
      obtain ⟨d, _, _, rfl⟩ := Pgm.ctE_some (oS_inr h0)
      exact EnvV.grow_trans (E1 := E.join E1 E2) (Nat.le_refl _) (EnvV.grow_join (Pgm.chk_grow n a _ _ ha h1) (EnvV.grow_trans (by rw [EnvV.add_len]; omega) (EnvV.grow_add _ _ _ _) (Pgm.chk_grow n b _ _ hb h5))) (Pgm.chk_grow n r _ _ hr h4)
/-- a call of the group -/
theorem rcB {N j : Nat} {a b : Int32} {h : pH} : rcV (gX12_checkWhile N (j + 1)) 282 [.ref 138, .int a, .int b] h = fX12_checkBlock N (gX12_checkWhile N j) 138 a b h := by
  unfold rcV
  rw [gX12_checkWhile]
  simp only [show (282 = 302) = False from eq_false (by omega), show (282 = 303) = False from eq_false (by omega), show (282 = 298) = False from eq_false (by omega), show (282 = 283) = False from eq_false (by omega), if_false, if_true]
  cases fX12_checkBlock N (gX12_checkWhile N j) 138 a b h <;> rfl
theorem rcO {N j : Nat} {a b : Int32} {h : pH} : rcV (gX12_checkWhile N (j + 1)) 283 [.ref 138, .int a, .int b] h = fX12_checkOne N (gX12_checkWhile N j) 138 a b h := by
  unfold rcV
  rw [gX12_checkWhile]
  simp only [show (283 = 302) = False from eq_false (by omega), show (283 = 303) = False from eq_false (by omega), show (283 = 298) = False from eq_false (by omega), if_false, if_true]
  cases fX12_checkOne N (gX12_checkWhile N j) 138 a b h <;> rfl
theorem rcIf {N j : Nat} {a b : Int32} {h : pH} : rcV (gX12_checkWhile N (j + 1)) 298 [.ref 138, .int a, .int b] h = fX12_checkIf N (gX12_checkWhile N j) 138 a b h := by
  unfold rcV
  rw [gX12_checkWhile]
  simp only [show (298 = 302) = False from eq_false (by omega), show (298 = 303) = False from eq_false (by omega), if_false, if_true]
  cases fX12_checkIf N (gX12_checkWhile N j) 138 a b h <;> rfl
theorem rcW {N j : Nat} {a b : Int32} {h : pH} : rcV (gX12_checkWhile N (j + 1)) 302 [.ref 138, .int a, .int b] h = fX12_checkWhile N (gX12_checkWhile N j) 138 a b h := by
  unfold rcV
  rw [gX12_checkWhile]
  simp only [if_true]
  cases fX12_checkWhile N (gX12_checkWhile N j) 138 a b h <;> rfl
theorem rcT {N j : Nat} {a b : Int32} {h : pH} : rcV (gX12_checkWhile N (j + 1)) 303 [.ref 138, .int a, .int b] h = fX12_checkTry N (gX12_checkWhile N j) 138 a b h := by
  unfold rcV
  rw [gX12_checkWhile]
  simp only [show (303 = 302) = False from eq_false (by omega), if_false, if_true]
  cases fX12_checkTry N (gX12_checkWhile N j) 138 a b h <;> rfl
/-- places are places in a text -/
def PlB : Tr → Prop := foldB True False (fun p _ _ _ r => p ≤ 3000 ∧ r) (fun p _ _ _ _ r => p ≤ 3000 ∧ r) (fun p _ _ _ r => p ≤ 3000 ∧ r) (fun p _ _ a _ _ b _ r => p ≤ 3000 ∧ a ∧ b ∧ r) (fun p _ _ a _ r => p ≤ 3000 ∧ a ∧ r) (fun p _ a _ _ _ b _ r => p ≤ 3000 ∧ a ∧ b ∧ r) (fun p _ _ _ r => p ≤ 3000 ∧ r)
theorem PlB_k {k : Nat} (hk : k = 40 ∨ k = 41 ∨ k = 42 ∨ k = 43 ∨ k = 52) (p : Nat) (e r : Tr) : PlB (nd k p 0 e r) = (p ≤ 3000 ∧ PlB r) := by
  rcases hk with rfl | rfl | rfl | rfl | rfl <;> rfl
theorem sB_inl {x : CkR} {f : EnvV → CkR} {p : Nat} (h : sB x f = .inl p) : x = .inl p ∨ ∃ E1, x = .inr E1 ∧ f E1 = .inl p := by
  cases x with
  | inl q => exact Or.inl h
  | inr E1 => exact Or.inr ⟨E1, rfl, h⟩
theorem oS_inl {p q : Nat} {O : Option EnvV} (h : oS p O = .inl q) : p = q ∧ O = none := by
  cases O with
  | none => injection h with h; exact ⟨h, rfl⟩
  | some E => cases h
theorem Pgm.chk_place {S : Tks} {P : Pgm} {c mt : Nat} : ∀ (n : Nat) (e : Tr) (E : EnvV) (q : Nat), GK S n e → PlB e → P.chk c mt e E = .inl q → q ≤ 3000
  | 0, e, E, q, hk, pl, h => by
    rw [show e = nl from hk] at h
    cases h
  | n + 1, e, E, q, hk, pl, h => by
    rcases hk with rfl | ⟨p, y, w, r, rfl, _, _, hr⟩ | ⟨p, y, w, x, r, rfl, _, _, _, hr⟩ | ⟨p, k, x, r, rfl, hk, hr⟩ | ⟨p, x, y, r, rfl, _, _, _, hr⟩ | ⟨p, x, a, f, b, r, rfl, hf, _, ha, hb, hr⟩ | ⟨p, x, a, r, rfl, _, ha, hr⟩ | ⟨p, a, cw, w, b, r, rfl, _, _, ha, hb, hr⟩
    · cases h
    · obtain ⟨l1, l2⟩ : p ≤ 3000 ∧ PlB r := pl
      rw [Pgm.chk_tell] at h
      rcases sB_inl h with h | ⟨E1, _, h⟩
      · have := (oS_inl h).1; omega
      · exact Pgm.chk_place n r _ _ hr l2 h
    · obtain ⟨l1, l2⟩ : p ≤ 3000 ∧ PlB r := pl
      rw [Pgm.chk_tellv] at h
      rcases sB_inl h with h | ⟨E1, _, h⟩
      · have := (oS_inl h).1; omega
      · exact Pgm.chk_place n r _ _ hr l2 h
    · rw [PlB_k (GKk hk)] at pl
      obtain ⟨l1, l2⟩ := pl
      rw [Pgm.chk_k (GKk hk)] at h
      rcases sB_inl h with h | ⟨E1, _, h⟩
      · have := (oS_inl h).1; omega
      · exact Pgm.chk_place n r _ _ hr l2 h
    · obtain ⟨l1, l2⟩ : p ≤ 3000 ∧ PlB r := pl
      rw [Pgm.chk_give] at h
      rcases sB_inl h with h | ⟨E1, _, h⟩
      · have := (oS_inl h).1; omega
      · exact Pgm.chk_place n r _ _ hr l2 h
    · obtain ⟨l1, l2, l3, l4⟩ : p ≤ 3000 ∧ PlB a ∧ PlB b ∧ PlB r := pl
      rw [Pgm.chk_ite] at h
      rcases sB_inl h with h | ⟨E1, _, h⟩
      · have := (oS_inl h).1; omega
      · rcases sB_inl h with h | ⟨E2, _, h⟩
        · exact Pgm.chk_place n a _ _ ha l2 h
        · split at h
          · rcases sB_inl h with h | ⟨E3, _, h⟩
            · exact Pgm.chk_place n b _ _ hb l3 h
            · exact Pgm.chk_place n r _ _ hr l4 h
          · exact Pgm.chk_place n r _ _ hr l4 h
    · obtain ⟨l1, l2, l4⟩ : p ≤ 3000 ∧ PlB a ∧ PlB r := pl
      rw [Pgm.chk_whil] at h
      rcases sB_inl h with h | ⟨E1, _, h⟩
      · have := (oS_inl h).1; omega
      · rcases sB_inl h with h | ⟨E2, _, h⟩
        · exact Pgm.chk_place n a _ _ ha l2 h
        · exact Pgm.chk_place n r _ _ hr l4 h
    · obtain ⟨l1, l2, l3, l4⟩ : p ≤ 3000 ∧ PlB a ∧ PlB b ∧ PlB r := pl
      rw [Pgm.chk_try] at h
      rcases sB_inl h with h | ⟨E2, _, h⟩
      · exact Pgm.chk_place n a _ _ ha l2 h
      · rcases sB_inl h with h | ⟨E1, _, h⟩
        · have := (oS_inl h).1; omega
        · rcases sB_inl h with h | ⟨E3, _, h⟩
          · exact Pgm.chk_place n b _ _ hb l3 h
          · exact Pgm.chk_place n r _ _ hr l4 h
/-- what a row of statements comes to -/
def RwR (P : Pgm) (D : List Int32 → Prop) (num : List Int32 → Nat) (c mth d s s' n n' : Nat) (hd : Int32) (Z : EnvV → pH → Prop) (O : CkR) (x : Option pH) (E : EnvV) (h : pH) : Prop := ∃ h1, x = some (wr h1 138 62 hd) ∧ Chg (tsA d s s' n n') h h1 ∧ match O with
  | .inl p => rd h1 138 58 = Int32.ofNat p ∧ ∃ E1, RSc P D num E1 h1 ∧ Pfx E E1
  | .inr E' => RSt P D num c mth E' h1 ∧ Z E' h1
def RunR (P : Pgm) (D : List Int32 → Prop) (num : List Int32 → Nat) (c mt mth N : Nat) (e : Tr) : Prop := ∀ (E : EnvV) (o : Option Nat) (s n l d j f : Nat) (hd : Int32) (h : pH), RSt P D num c mth E h → PlB e → RBn P D num h e o s n l → s + stB e ≤ 1600 → n + szB e ≤ 3200 → l + lsB e ≤ 3200 → d + dp e ≤ 31 → E.1.length + nv e ≤ 999 → 3 * dp e + 2 ≤ j → RwR P D num c mth d s (s + stB e) n (n + szB e) hd (fun _ h' => RTc P num c mt h' e E o s n l) (P.chk c mt e E) (fX12_checkBlock_8 N (gX12_checkWhile N j) (f + 1 + stB e) 138 (Int32.ofNat d) hd (fsB e s) h) E h
theorem blk39 {rc : Nat → List Value → pH → Option (Option Value × pH)} {N : Nat} {hd : Int32} {h : pH} (hs : Sg h) : fX12_checkBlock_39 N rc 138 hd h = some (wr h 138 62 hd) := by
  unfold fX12_checkBlock_39
  rw [p_138_62 hs, Option.bind_some]
theorem blk_end {rc : Nat → List Value → pH → Option (Option Value × pH)} {N k : Nat} {d hd : Int32} {h : pH} (hs : Sg h) : fX12_checkBlock_8 N rc (k + 1) 138 d hd (-1) h = some (wr h 138 62 hd) := by
  rw [fX12_checkBlock_8, if_pos (show (-1 : Int32) < 0 by decide), blk39 hs]
theorem blk_bad {rc : Nat → List Value → pH → Option (Option Value × pH)} {N k p : Nat} {d hd v : Int32} {h : pH} (hs : Sg h) (hp : p < 2 ^ 31) (h58 : rd h 138 58 = Int32.ofNat p) : fX12_checkBlock_8 N rc (k + 1) 138 d hd v h = some (wr h 138 62 hd) := by
  rw [fX12_checkBlock_8, g_138_58 hs, Option.bind_some, h58, if_pos (Int32.not_lt.mp (i_nneg hp)), blk39 hs, ite_self]
theorem RBn.link {S : Tks} {P : Pgm} {D : List Int32 → Prop} {num : List Int32 → Nat} {h : pH} {m s s1 n l : Nat} {e : Tr} (hk : GK S m e) (q : RBn P D num h e (some s) s1 n l) : rd h 161 s = fsB e s1 := by
  unfold fsB
  cases m with
  | zero =>
    rw [show e = nl from hk] at q ⊢
    exact q
  | succ m =>
    rcases hk with rfl | ⟨p, y, w, r, rfl, _, _, hr⟩ | ⟨p, y, w, x, r, rfl, _, _, _, hr⟩ | ⟨p, k, x, r, rfl, hk, hr⟩ | ⟨p, x, y, r, rfl, _, _, _, hr⟩ | ⟨p, x, a, f, b, r, rfl, hf, _, ha, hb, hr⟩ | ⟨p, x, a, r, rfl, _, ha, hr⟩ | ⟨p, a, cw, w, b, r, rfl, _, _, ha, hb, hr⟩
    · exact q
    · rw [RBn_tell] at q
      rw [(sz_tell p y w r).1, if_neg (by omega)]
      exact q.1
    · rw [RBn_tellv] at q
      rw [(sz_tellv p y w x r).1, if_neg (by omega)]
      exact q.1
    · rw [RBn_k (GKk hk)] at q
      rw [(sz_k (GKk hk) p x r).1, if_neg (by omega)]
      exact q.1
    · rw [RBn_give] at q
      rw [(sz_give p x y r).1, if_neg (by omega)]
      exact q.1
    · rw [RBn_ite] at q
      rw [(sz_ite p x a f b r).1, if_neg (by omega)]
      exact q.1
    · rw [RBn_whil] at q
      rw [(sz_whil p x a r).1, if_neg (by omega)]
      exact q.1
    · rw [RBn_try] at q
      rw [(sz_try p a cw w b r).1, if_neg (by omega)]
      exact q.1
/-- a statement, and then the rest -/
theorem RunR.seq {S : Tks} {P : Pgm} {D : List Int32 → Prop} {num : List Int32 → Nat} {c mt mth N m s s1 n n1 l1 d j f : Nat} {E : EnvV} {r : Tr} {hd : Int32} {Z Z2 : EnvV → pH → Prop} {O : CkR} {h : pH} (hp : ∀ p, O = .inl p → p < 2 ^ 31) (gr : GK S m r) (pr : PlB r) (RBr : RunR P D num c mt mth N r) (q : RSt P D num c mth E h) (A : OnR P D num c mth d s s1 n n1 Z O (fX12_checkOne N (gX12_checkWhile N j) 138 (Int32.ofNat s) (Int32.ofNat d) h) E h) (rb : RBn P D num h r (some s) s1 n1 l1) (hs1 : s < s1) (hn1 : n ≤ n1) (b1 : s1 + stB r ≤ 1600) (b2 : n1 + szB r ≤ 3200) (b3 : l1 + lsB r ≤ 3200) (b4 : d + dp r ≤ 31) (b5 : ∀ E', O = .inr E' → E'.1.length + nv r ≤ 999 ∧ Pfx E E') (b6 : 3 * dp r + 2 ≤ j + 1) (hZ : ∀ E' E2 h1 h2, O = .inr E' → Z E' h1 → Chg (tsA d s s1 n n1) h h1 → Chg (tsA d s1 (s1 + stB r) n1 (n1 + szB r)) h1 h2 → RTc P num c mt h2 r E' (some s) s1 n1 l1 → Z2 E2 h2) : RwR P D num c mth d s (s1 + stB r) n (n1 + szB r) hd Z2 (sB O (P.chk c mt r)) (fX12_checkBlock_8 N (gX12_checkWhile N (j + 1)) (f + 1 + stB r + 1) 138 (Int32.ofNat d) hd (Int32.ofNat s) h) E h := by
  have hs := q.1.1.1.1
  obtain ⟨h1, e1, g1, e2⟩ := A
  have hsg : Sg h1 := hs.of g1.1
  have lk : rd h1 161 s = fsB r s1 := by rw [g1.2.2.1 _ _ (by unfold tsA ndA; omega)]; exact RBn.link gr rb
  have step : fX12_checkBlock_8 N (gX12_checkWhile N (j + 1)) (f + 1 + stB r + 1) 138 (Int32.ofNat d) hd (Int32.ofNat s) h = fX12_checkBlock_8 N (gX12_checkWhile N (j + 1)) (f + 1 + stB r) 138 (Int32.ofNat d) hd (fsB r s1) h1 := by
    rw [fX12_checkBlock_8, if_neg (i_nneg (by omega)), g_138_58 hs, Option.bind_some, q.2.2, if_neg (show ¬ (0 : Int32) ≤ -1 by decide), if_pos (o_138 hs), Option.bind_some, rcO, e1, Option.bind_some, R_138_36 hsg, Option.bind_some, L_161 hsg (by omega), Option.bind_some, lk]
  rw [step]
  cases O with
  | inl p =>
    obtain ⟨e3, E1, e4, e5⟩ := e2
    refine ⟨h1, ?_, g1.mono (fun a k z => z.mono (Nat.le_refl _) (Nat.le_refl _) (by omega) (Nat.le_refl _) (by omega)), e3, E1, e4, e5⟩
    rw [show f + 1 + stB r = f + stB r + 1 by omega]
    exact blk_bad hsg (hp p rfl) e3
  | inr E' =>
    obtain ⟨e3, e4⟩ := e2
    obtain ⟨b7, b8⟩ := b5 E' rfl
    have B := RBr E' (some s) s1 n1 l1 d (j + 1) f hd h1 e3 pr (RBn.ag m r _ _ _ _ gr rb (AgT.of g1 (Or.inr (Nat.le_refl _)) (Or.inr (Nat.le_refl _)))) b1 b2 b3 b4 b7 b6
    obtain ⟨h2, f1, g2, f2⟩ := B
    refine ⟨h2, f1, (g1.mono (fun a k z => z.mono (Nat.le_refl _) (Nat.le_refl _) (by omega) (Nat.le_refl _) (by omega))).trans (g2.mono (fun a k z => z.mono (Nat.le_refl _) (by omega) (Nat.le_refl _) (by omega) (Nat.le_refl _))), ?_⟩
    show match P.chk c mt r E' with
      | .inl p => _
      | .inr E' => _
    cases hr : P.chk c mt r E' with
    | inl p =>
      rw [hr] at f2
      obtain ⟨f3, E1, f4, f5⟩ := f2
      exact ⟨f3, E1, f4, b8.trans f5⟩
    | inr E2 =>
      rw [hr] at f2
      exact ⟨f2.1, hZ E' E2 h1 h2 rfl e4 g1 g2 f2.2⟩
/-- an inner block -/
theorem RunR.block {S : Tks} {P : Pgm} {D : List Int32 → Prop} {num : List Int32 → Nat} {c mt mth N m s n l d j : Nat} {E : EnvV} {a : Tr} {h : pH} (hN : 5000 ≤ N) (ga : GK S m a) (pa : PlB a) (RBa : RunR P D num c mt mth N a) (q : RSt P D num c mth E h) (rb : RBn P D num h a none s n l) (b1 : s + stB a ≤ 1600) (b2 : n + szB a ≤ 3200) (b3 : l + lsB a ≤ 3200) (b4 : d + dp a ≤ 31) (b5 : E.1.length + nv a ≤ 999) (b6 : 3 * dp a + 2 ≤ j) : ∃ h', fX12_checkBlock N (gX12_checkWhile N j) 138 (fsB a s) (Int32.ofNat d) h = some h' ∧ Chg (tsA d s (s + stB a) n (n + szB a)) h h' ∧ match P.chk c mt a E with
    | .inl p => rd h' 138 58 = Int32.ofNat p ∧ ∃ E1, RSc P D num E1 h' ∧ E1.1 = E.1
    | .inr E1 => RSt P D num c mth (E.cut E1) h' ∧ RTc P num c mt h' a E none s n l := by
  have hs := q.1.1.1.1
  obtain ⟨f, hf⟩ : ∃ f, N = f + 1 + stB a := ⟨N - 1 - stB a, by omega⟩
  obtain ⟨h1, e1, g1, e2⟩ := RBa E none s n l d j f (Int32.ofNat E.1.length) h q pa rb b1 b2 b3 b4 b5 b6
  rw [← hf] at e1
  have hsg : Sg h1 := hs.of g1.1
  have gw : Chg (fun a k => a = 138 ∧ k = 62) h1 (wr h1 138 62 (Int32.ofNat E.1.length)) := Chg.wr _ _ _ _ ⟨rfl, rfl⟩
  refine ⟨_, ?_, g1.trans (gw.mono (fun a k z => by unfold tsA; omega)), ?_⟩
  · unfold fX12_checkBlock
    rw [if_pos (o_138 hs), g_138_62 hs, Option.bind_some, q.1.2.1.1]
    exact e1
  · cases hr : P.chk c mt a E with
    | inl p =>
      rw [hr] at e2
      obtain ⟨e3, E1, e4, e5⟩ := e2
      exact ⟨by rw [rd_wr_ne _ _ (by omega)]; exact e3, E.cut E1, e4.cut hsg e5, rfl⟩
    | inr E1 =>
      rw [hr] at e2
      obtain ⟨e3, e4⟩ := e2
      have px := (Pgm.chk_pfx m a E E1 ga hr).1
      exact ⟨e3.sc gw (fun a k z => by unfold rkA rtA at z; omega) (by omega) (by omega) (by omega) (e3.1.2.1.cut hsg px) (EnvV.one_same rfl q.1.2.2.2.1) (EnvV.no3_same rfl q.1.2.2.2.2), RTc.ag m a E none s n l ga e4 ⟨fun a k i1 i2 _ _ => gw.2.2.1 _ _ (by omega), fun k => gw.2.2.1 _ _ (by omega), fun a m i1 _ _ => gw.2.2.1 _ _ (by omega), fun m => gw.2.2.1 _ _ (by omega)⟩⟩
