/-- further down the levels: from level hi to level hi - n + 1 -/
def Tks.down (S : Tks) (s : Nat → Pr Tr) : Nat → Nat → Tr → Nat → Pr Tr
  | _, 0, x, t => ok x t
  | hi, n + 1, x, t => (S.lp (S.lv s (6 - hi)) hi (S.E - t) x t).bind fun y u => Tks.down S s (hi - 1) n y u
theorem Tks.down_add (S : Tks) (s : Nat → Pr Tr) : ∀ (n m hi : Nat) (x : Tr) (t : Nat), S.down s hi (n + m) x t = (S.down s hi n x t).bind fun y u => S.down s (hi - n) m y u
  | 0, m, hi, x, t => by rw [Nat.zero_add]; rfl
  | n + 1, m, hi, x, t => by
    rw [show n + 1 + m = (n + m) + 1 by omega]
    show (S.lp _ _ _ _ _).bind _ = ((S.lp _ _ _ _ _).bind _).bind _
    rw [Pr.bind_assoc]
    congr 1
    funext y u
    rw [Tks.down_add S s n m (hi - 1) y u, show hi - 1 - n = hi - (n + 1) by omega]
theorem Tks.lv_down (S : Tks) (s : Nat → Pr Tr) : ∀ (i t : Nat), i ≤ 6 → S.lv s i t = (s t).bind fun x u => S.down s 6 i x u
  | 0, t, _ => by
    show s t = Pr.bind (s t) fun x u => ok x u
    rcases s t with ⟨a, u⟩ | w <;> rfl
  | i + 1, t, hi => by
    show (S.lv s i t).bind _ = _
    rw [Tks.lv_down S s i t (by omega), Pr.bind_assoc]
    congr 1
    funext x u
    rw [Tks.down_add S s i 1 6 x u]
    congr 1
    funext y v
    show _ = (S.lp (S.lv s (6 - (6 - i))) (6 - i) (S.E - v) y v).bind _
    rw [show 6 - (6 - i) = i by omega]
    rcases S.lp (S.lv s i) (6 - i) (S.E - v) y v with ⟨a, u⟩ | w <;> rfl
/-- signs that wait: the sign, what stands to its left -/
abbrev Tks.Wt : Type := List (Int32 × Tr)
/-- levels of what waits rise to the top, all above 0 -/
def Tks.WtOk : Nat → Tks.Wt → Prop
  | _, [] => True
  | b, (k, _) :: st => 1 ≤ lvl k ∧ lvl k ≤ b ∧ k ≠ 21 ∧ Tks.WtOk (lvl k - 1) st
/-- all that is yet to be read, where x is complete down to level m + 1 -/
def Tks.den (S : Tks) (s : Nat → Pr Tr) : Nat → Tks.Wt → Tr → Nat → Pr Tr
  | m, [], x, t => S.down s m m x t
  | m, (k, a) :: st, x, t => (S.down s m (m - lvl k) x t).bind fun y u => Tks.den S s (if onceL (lvl k) then lvl k - 1 else lvl k) st (mk2 k a y) u
theorem Tks.den_cons (S : Tks) (s : Nat → Pr Tr) (m : Nat) (k : Int32) (a : Tr) (st : Tks.Wt) (x : Tr) (t : Nat) : S.den s m ((k, a) :: st) x t = (S.down s m (m - lvl k) x t).bind fun y u => S.den s (if onceL (lvl k) then lvl k - 1 else lvl k) st (mk2 k a y) u := rfl
theorem Tks.lp_succ (S : Tks) (s : Nat → Pr Tr) (l f : Nat) (x : Tr) (t : Nat) : S.lp s l (f + 1) x t = if lvl (S.K t) ≠ l then ok x t
    else if S.K t = 21 then (if S.K (t + 1) = 22 then ok (eUn 16 0 (t + 1) x) (t + 2) else no (S.P (t + 1)))
    else (s (t + 1)).bind fun y t' => if onceL l then ok (mk2 (S.K t) x y) t' else Tks.lp S s l f (mk2 (S.K t) x y) t' := rfl
/-- all that waits is done -/
def Tks.fold : Tks.Wt → Tr → Tr
  | [], x => x
  | (k, a) :: st, x => Tks.fold st (mk2 k a x)
/-- down where no sign fits -/
theorem Tks.down_same (S : Tks) (s : Nat → Pr Tr) : ∀ (n hi : Nat) (x : Tr) (t : Nat), n ≤ hi → (lvl (S.K t) ≤ hi - n ∨ hi < lvl (S.K t)) → S.down s hi n x t = ok x t
  | 0, hi, x, t, _, _ => rfl
  | n + 1, hi, x, t, h1, h2 => by
    unfold Tks.down
    have : S.lp (S.lv s (6 - hi)) hi (S.E - t) x t = ok x t := by
      cases hf : S.E - t with
      | zero => rfl
      | succ f =>
        unfold Tks.lp
        rw [if_pos (by omega)]
    rw [this, Pr.bind_ok]
    exact Tks.down_same S s n (hi - 1) x t (by omega) (by omega)
/-- release: what waits with a level from the least on is done -/
def Tks.rel (ls : Nat) : Tks.Wt → Tr → Tks.Wt × Tr
  | [], x => ([], x)
  | (k, a) :: st, x => if ls ≤ lvl k then Tks.rel ls st (mk2 k a x) else ((k, a) :: st, x)
theorem Tks.rel_ok : ∀ (ls b : Nat) (st : Tks.Wt) (x : Tr), Tks.WtOk b st → Tks.WtOk (ls - 1) (Tks.rel ls st x).1
  | ls, b, [], x, h => trivial
  | ls, b, (k, a) :: st, x, ⟨h1, h2, h3, h4⟩ => by
    unfold Tks.rel
    split
    · exact Tks.rel_ok ls _ st _ h4
    · exact ⟨h1, by omega, h3, h4⟩
theorem Tks.WtOk.mono : ∀ {b c : Nat} {st : Tks.Wt}, Tks.WtOk b st → b ≤ c → Tks.WtOk c st
  | b, c, [], _, _ => trivial
  | b, c, (k, a) :: st, ⟨h1, h2, h3, h4⟩, hc => ⟨h1, by omega, h3, h4⟩
theorem Tks.rel_fold : ∀ (ls : Nat) (st : Tks.Wt) (x : Tr), Tks.fold (Tks.rel ls st x).1 (Tks.rel ls st x).2 = Tks.fold st x
  | ls, [], x => rfl
  | ls, (k, a) :: st, x => by
    unfold Tks.rel
    split
    · exact Tks.rel_fold ls st _
    · rfl
theorem Tks.rel_0 : ∀ (st : Tks.Wt) (x : Tr), Tks.rel 0 st x = ([], Tks.fold st x)
  | [], x => rfl
  | (k, a) :: st, x => by
    unfold Tks.rel
    rw [if_pos (Nat.zero_le _)]
    exact Tks.rel_0 st _
/-- nothing fits: all that waits is done -/
theorem Tks.den_fold (S : Tks) (s : Nat → Pr Tr) : ∀ (st : Tks.Wt) (m : Nat) (x : Tr) (t : Nat), Tks.WtOk m st → (lvl (S.K t) = 0 ∨ m < lvl (S.K t)) → S.den s m st x t = ok (Tks.fold st x) t
  | [], m, x, t, _, h => by
    unfold Tks.den
    exact Tks.down_same S s m m x t (Nat.le_refl _) (by omega)
  | (k, a) :: st, m, x, t, ⟨h1, h2, h3, h4⟩, h => by
    unfold Tks.den
    rw [Tks.down_same S s (m - lvl k) m x t (by omega) (by omega), Pr.bind_ok]
    have hd : (if onceL (lvl k) = true then lvl k - 1 else lvl k) ≤ lvl k := by split <;> omega
    refine Tks.den_fold S s st _ (mk2 k a x) t (h4.mono (by split <;> omega)) (by omega)
/-- the least level that is released ahead of a sign of level l -/
def Tks.least (l : Nat) : Nat := if onceL l then l + 1 else l
/-- ahead of a sign what waits from its least level on is done -/
theorem Tks.den_rel (S : Tks) (s : Nat → Pr Tr) {t : Nat} (hl : lvl (S.K t) ≠ 0) : ∀ (st : Tks.Wt) (m : Nat) (x : Tr), Tks.WtOk m st → lvl (S.K t) ≤ m → S.den s m st x t = S.den s (lvl (S.K t)) (Tks.rel (Tks.least (lvl (S.K t))) st x).1 (Tks.rel (Tks.least (lvl (S.K t))) st x).2 t
  | [], m, x, _, hm => by
    show S.down s m m x t = S.down s (lvl (S.K t)) (lvl (S.K t)) x t
    have e := Tks.down_add S s (m - lvl (S.K t)) (lvl (S.K t)) m x t
    rw [show m - lvl (S.K t) + lvl (S.K t) = m by omega] at e
    rw [e, Tks.down_same S s _ m x t (by omega) (by omega), Pr.bind_ok, show m - (m - lvl (S.K t)) = lvl (S.K t) by omega]
  | (k, a) :: st, m, x, ⟨h1, h2, h3, h4⟩, hm => by
    unfold Tks.rel
    split
    · rename_i hle
      have hlt : lvl (S.K t) ≤ lvl k ∧ (onceL (lvl (S.K t)) = true → lvl (S.K t) < lvl k) := by
        unfold Tks.least at hle
        split at hle
        · exact ⟨by omega, fun _ => by omega⟩
        · rename_i z
          exact ⟨hle, fun w => absurd w z⟩
      rw [Tks.den_cons, Tks.down_same S s (m - lvl k) m x t (by omega) (by omega), Pr.bind_ok]
      refine Tks.den_rel S s hl st (if onceL (lvl k) = true then lvl k - 1 else lvl k) (mk2 k a x) (h4.mono (by split <;> omega)) ?_
      split
      · rename_i hon
        by_cases z : lvl (S.K t) = lvl k
        · have := hlt.2 (by rw [z]; exact hon)
          omega
        · omega
      · exact hlt.1
    · rename_i hle
      have hlt : lvl k ≤ lvl (S.K t) := by
        unfold Tks.least at hle
        split at hle <;> omega
      show S.den s m ((k, a) :: st) x t = S.den s (lvl (S.K t)) ((k, a) :: st) x t
      unfold Tks.den
      have e := Tks.down_add S s (m - lvl (S.K t)) (lvl (S.K t) - lvl k) m x t
      rw [show m - lvl (S.K t) + (lvl (S.K t) - lvl k) = m - lvl k by omega] at e
      rw [e, Tks.down_same S s (m - lvl (S.K t)) m x t (by omega) (by omega), Pr.bind_ok, show m - (m - lvl (S.K t)) = lvl (S.K t) by omega]
/-- may the sign of level l come here? -/
def Tks.fitsW (l : Nat) : Tks.Wt → Prop
  | [] => 0 < l
  | (k, _) :: _ => lvl k < l
/-- it does not: all that waits is done -/
theorem Tks.den_unfit (S : Tks) (s : Nat → Pr Tr) {t : Nat} (st : Tks.Wt) (x : Tr) (hw : Tks.WtOk (Tks.least (lvl (S.K t)) - 1) st) (hf : ¬ Tks.fitsW (lvl (S.K t)) st) : S.den s (lvl (S.K t)) st x t = ok (Tks.fold st x) t := by
  cases st with
  | nil =>
    have : lvl (S.K t) = 0 := Nat.eq_zero_of_not_pos hf
    rw [this]; rfl
  | cons p st =>
    obtain ⟨k, a⟩ := p
    obtain ⟨h1, h2, h3, h4⟩ := hw
    have hf : lvl (S.K t) ≤ lvl k := Nat.le_of_not_lt hf
    have hon : onceL (lvl (S.K t)) = true ∧ lvl k = lvl (S.K t) := by
      unfold Tks.least at h2
      split at h2
      · rename_i z
        exact ⟨z, by omega⟩
      · omega
    unfold Tks.den
    rw [hon.2, Nat.sub_self, if_pos hon.1]
    show S.den s (lvl (S.K t) - 1) st (mk2 k a x) t = _
    rw [hon.2] at h4 h1
    exact Tks.den_fold S s st _ _ t h4 (by omega)
/-- it does: the sign waits, and what stands to its right is read -/
theorem Tks.den_fit (S : Tks) (s : Nat → Pr Tr) (hs : S.Adv s) {t : Nat} (st : Tks.Wt) (x : Tr) (hk : S.K t ≠ 21) (hf : Tks.fitsW (lvl (S.K t)) st) : S.den s (lvl (S.K t)) st x t = (s (t + 1)).bind fun y u => S.den s 6 ((S.K t, x) :: st) y u := by
  have h6 := lvl_le (S.K t)
  have hl : lvl (S.K t) ≠ 0 := by
    cases st with
    | nil => exact Nat.pos_iff_ne_zero.mp hf
    | cons p st => exact Nat.pos_iff_ne_zero.mp (Nat.lt_of_le_of_lt (Nat.zero_le _) hf)
  have ht : t < S.E := Tks.lt_of (fun z => hl (by rw [z]; rfl))
  obtain ⟨f, hE⟩ : ∃ f, S.E - t = f + 1 := ⟨S.E - t - 1, by omega⟩
  -- the loop at this level
  have key : ∀ (g : Nat) (G : Tr → Nat → Pr Tr), S.lp (S.lv s (6 - lvl (S.K t))) (lvl (S.K t)) (S.E - t) x t = (s (t + 1)).bind fun y u => (S.down s 6 (6 - lvl (S.K t)) y u).bind fun z v => if onceL (lvl (S.K t)) then ok (mk2 (S.K t) x z) v else S.lp (S.lv s (6 - lvl (S.K t))) (lvl (S.K t)) (S.E - v) (mk2 (S.K t) x z) v := by
    intro _ _
    rw [hE, Tks.lp_succ, if_neg (fun q => q rfl), if_neg hk, Tks.lv_down S s _ _ (by omega), Pr.bind_assoc]
    have hA := Tks.lv_adv hs (6 - lvl (S.K t))
    rcases h1 : s (t + 1) with ⟨y, u⟩ | w
    · rw [Pr.bind_ok, Pr.bind_ok]
      rcases h2 : S.down s 6 (6 - lvl (S.K t)) y u with ⟨z, v⟩ | w
      · rw [Pr.bind_ok, Pr.bind_ok]
        split
        · rfl
        · have h3 := hA (t + 1) z v (by rw [Tks.lv_down S s _ _ (by omega), h1, Pr.bind_ok, h2])
          exact Tks.lp_fuel hA _ f (S.E - v) _ v hl (by omega) (by omega)
      · rfl
    · rfl
  have key := key 0 (fun x t => ok x t)
  cases st with
  | nil =>
    obtain ⟨n, hn⟩ : ∃ n, lvl (S.K t) = n + 1 := ⟨lvl (S.K t) - 1, by omega⟩
    show S.down s (lvl (S.K t)) (lvl (S.K t)) x t = _
    have e : S.down s (lvl (S.K t)) (lvl (S.K t)) x t = (S.lp (S.lv s (6 - lvl (S.K t))) (lvl (S.K t)) (S.E - t) x t).bind fun y u => S.down s (lvl (S.K t) - 1) (lvl (S.K t) - 1) y u := by
      generalize hL : lvl (S.K t) = L at *
      subst hn
      rfl
    rw [e, key, Pr.bind_assoc]
    congr 1
    funext y u
    rw [Pr.bind_assoc]
    show _ = (S.down s 6 (6 - lvl (S.K t)) y u).bind _
    congr 1
    funext z v
    by_cases ho : onceL (lvl (S.K t)) = true
    · rw [if_pos ho, if_pos ho, Pr.bind_ok]
      rfl
    · rw [if_neg ho, if_neg ho]
      show _ = S.down s (lvl (S.K t)) (lvl (S.K t)) _ v
      generalize hL : lvl (S.K t) = L at *
      subst hn
      rfl
  | cons p st =>
    obtain ⟨k, a⟩ := p
    have hf : lvl k < lvl (S.K t) := hf
    obtain ⟨n, hn⟩ : ∃ n, lvl (S.K t) - lvl k = n + 1 := ⟨lvl (S.K t) - lvl k - 1, by omega⟩
    show (S.down s (lvl (S.K t)) (lvl (S.K t) - lvl k) x t).bind _ = _
    have e : ∀ X v, S.down s (lvl (S.K t)) (lvl (S.K t) - lvl k) X v = (S.lp (S.lv s (6 - lvl (S.K t))) (lvl (S.K t)) (S.E - v) X v).bind fun y u => S.down s (lvl (S.K t) - 1) (lvl (S.K t) - 1 - lvl k) y u := by
      intro X v
      rw [show lvl (S.K t) - 1 - lvl k = n by omega, hn]
      rfl
    rw [e, key, Pr.bind_assoc, Pr.bind_assoc]
    congr 1
    funext y u
    rw [Pr.bind_assoc]
    show _ = (S.down s 6 (6 - lvl (S.K t)) y u).bind _
    congr 1
    funext z v
    by_cases ho : onceL (lvl (S.K t)) = true
    · rw [if_pos ho, if_pos ho, Pr.bind_ok]
      rfl
    · rw [if_neg ho, if_neg ho]
      show _ = (S.down s (lvl (S.K t)) (lvl (S.K t) - lvl k) _ v).bind _
      rw [e, Pr.bind_assoc]
/-- is: the name behind it, and no more on this level -/
theorem Tks.den_is (S : Tks) (s : Nat → Pr Tr) {t : Nat} (st : Tks.Wt) (x : Tr) (hk : S.K t = 21) (hf : Tks.fitsW 4 st) : S.den s 4 st x t = if S.K (t + 1) = 22 then S.den s 3 st (eUn 16 0 (t + 1) x) (t + 2) else no (S.P (t + 1)) := by
  have ht : t < S.E := Tks.lt_of (by rw [hk]; decide)
  obtain ⟨f, hE⟩ : ∃ f, S.E - t = f + 1 := ⟨S.E - t - 1, by omega⟩
  have key : S.lp (S.lv s 2) 4 (S.E - t) x t = if S.K (t + 1) = 22 then ok (eUn 16 0 (t + 1) x) (t + 2) else no (S.P (t + 1)) := by
    rw [hE]
    unfold Tks.lp
    rw [if_neg (fun q => q (by rw [hk]; decide)), if_pos hk]
  cases st with
  | nil =>
    show (S.lp (S.lv s 2) 4 (S.E - t) x t).bind _ = _
    rw [key]
    split <;> rfl
  | cons p st =>
    obtain ⟨k, a⟩ := p
    have hf : lvl k < 4 := hf
    obtain ⟨n, hn⟩ : ∃ n, 4 - lvl k = n + 1 := ⟨4 - lvl k - 1, by omega⟩
    show (S.down s 4 (4 - lvl k) x t).bind _ = _
    rw [hn]
    show ((S.lp (S.lv s 2) 4 (S.E - t) x t).bind _).bind _ = _
    rw [key]
    split
    · rw [Pr.bind_ok]
      show (S.down s 3 n _ (t + 2)).bind _ = (S.down s 3 (3 - lvl k) _ (t + 2)).bind _
      rw [show 3 - lvl k = n by omega]
    · rfl
/-- the whole expression: from nothing that waits -/
theorem Tks.expr_den (S : Tks) (r t : Nat) : S.expr r t = (S.sgl r t).bind fun x u => S.den (S.sgl r) 6 [] x u := Tks.lv_down S (S.sgl r) 6 t (Nat.le_refl _)
