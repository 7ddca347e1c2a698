/-! ===== THE REFERENCE unfolds an expression ===== -/
def lfK (k : Nat) : Prop := (1 ≤ k ∧ k ≤ 6) ∨ k = 13
/-- things that are steps -/
def StI (P : Pgm) (S : Tks) (num : List Int32 → Nat) (c : Nat) (E : EnvV) (g : pH) (it : It) (ys : List Xi) : Prop := (it.1 = 0 ∧ ∃ k v w j, lfK k ∧ it.2 = Int32.ofNat j ∧ j < 3200 ∧ rd g 144 j = (P.rnK num c E k v w nl []).1 ∧ rd g 147 j = (P.rnK num c E k v w nl []).2 ∧ ys = [.inl (k, v, w, false, [])]) ∨ ((it.1 = 1 ∨ it.1 = 2) ∧ ItX P S num c E g it ys)
theorem nx_len : ∀ (xs : List Xi), (nx xs).length ≤ xs.length
  | [] => Nat.le_refl _
  | .inl (k, v, w, z, l) :: xs => by
    have := nx_len xs
    show (if k = 50 ∨ k = 51 then nx xs else .inl (k, v, w, z, l) :: nx xs).length ≤ xs.length + 1
    split
    · omega
    · rw [List.length_cons]; omega
  | .inr x :: xs => by
    have := nx_len xs
    show (nx xs).length + 1 ≤ xs.length + 1
    omega
theorem flX_ne {P : Pgm} {S : Tks} {c : Nat} {E : EnvV} {e : Tr} (he : Ox S e) : nx (P.flX c E e) ≠ [] := by
  obtain ⟨n, he⟩ := he
  have key : ∀ k v w a b, k ≠ 70 → k ≠ 50 → k ≠ 51 → nx (P.flX c E (nd k v w a b)) ≠ [] := fun k v w a b h1 h2 h3 => by
    rw [Pgm.flX_nd]
    by_cases hk : k = 28 ∨ k = 29
    · rw [if_pos hk, nx_app]
      intro z
      have := congrArg List.length z
      rw [List.length_append] at this
      have e : (nx [Sum.inr (k, b)]).length = 1 := rfl
      have : ([] : List Xi).length = 0 := rfl
      omega
    · rw [if_neg hk, if_neg h1, nx_app, nx_app]
      intro z
      have := congrArg List.length z
      rw [List.length_append, List.length_append] at this
      have e : nx [.inl (k, v, w, ownT a, (P.te c E a).getD [] ++ (P.te c E b).getD [])] = [.inl (k, v, w, ownT a, (P.te c E a).getD [] ++ (P.te c E b).getD [])] := by
        show (if k = 50 ∨ k = 51 then nx [] else _ :: nx []) = _
        rw [if_neg (by omega)]
        rfl
      rw [e] at this
      have e1 : ([.inl (k, v, w, ownT a, (P.te c E a).getD [] ++ (P.te c E b).getD [])] : List Xi).length = 1 := rfl
      have : ([] : List Xi).length = 0 := rfl
      omega
  match n, he with
  | n + 1, he =>
    rcases he with ⟨k, v, rfl, h2⟩ | ⟨k, w', rfl, h2, h3⟩ | ⟨k, x', rfl, h2, h3⟩ | ⟨k, w', x', rfl, h2, h3, h4⟩ | ⟨k, x', y', rfl, h2, h3, h4⟩ | ⟨v, w', s', rfl, h2, h3⟩
    · exact key _ _ _ _ _ (by omega) (by omega) (by omega)
    · exact key _ _ _ _ _ (by omega) (by omega) (by omega)
    · exact key _ _ _ _ _ (by omega) (by omega) (by omega)
    · exact key _ _ _ _ _ (by omega) (by omega) (by omega)
    · exact key _ _ _ _ _ (by omega) (by omega) (by omega)
    · exact key _ _ _ _ _ (by omega) (by omega) (by omega)
theorem ItX.ne {P : Pgm} {S : Tks} {num : List Int32 → Nat} {c : Nat} {E : EnvV} {g : pH} {it : It} {ys : List Xi} (h : ItX P S num c E g it ys) : 1 ≤ ys.length := by
  rcases h with ⟨_, e, n, l, t, h1, h2, h3, h4, h5, h6, rfl⟩ | ⟨_, k, v, w, z, l, j, a, _, _, _, _, _, _, _, rfl⟩ | ⟨_, k, b, n, l, j, _, _, _, _, _, _, _, _, _, _, rfl⟩
  · have := flX_ne (P := P) (c := c) (E := E) h1
    rcases hq : nx (P.flX c E e) with _ | ⟨y, ys⟩
    · exact absurd hq this
    · exact Nat.succ_le_succ (Nat.zero_le _)
  · exact Nat.le_refl _
  · exact Nat.le_refl _
theorem TdX.len {P : Pgm} {S : Tks} {num : List Int32 → Nat} {c : Nat} {E : EnvV} {g : pH} : ∀ {its : List It} {zs : List Xi}, TdX P S num c E g its zs → its.length ≤ zs.length
  | [], zs, _ => Nat.zero_le _
  | it :: its, zs, h => by
    obtain ⟨ys, ws, rfl, h1, h2⟩ := h
    have := h1.ne
    have := TdX.len h2
    rw [List.length_cons, List.length_append]
    omega
theorem TdX.app {P : Pgm} {S : Tks} {num : List Int32 → Nat} {c : Nat} {E : EnvV} {g : pH} : ∀ {a b : List It} {x y : List Xi}, TdX P S num c E g a x → TdX P S num c E g b y → TdX P S num c E g (a ++ b) (x ++ y)
  | [], b, x, y, h1, h2 => by
    have h1 : x = [] := h1
    subst h1
    exact h2
  | it :: a, b, x, y, h1, h2 => by
    obtain ⟨ys, ws, rfl, h3, h4⟩ := h1
    exact ⟨ys, ws ++ y, by rw [List.append_assoc], h3, TdX.app h4 h2⟩
theorem TdX.one {P : Pgm} {S : Tks} {num : List Int32 → Nat} {c : Nat} {E : EnvV} {g : pH} {it : It} {ys : List Xi} (h : ItX P S num c E g it ys) : TdX P S num c E g [it] ys := ⟨ys, [], (List.append_nil _).symm, h, rfl⟩
theorem It0 {P : Pgm} {S : Tks} {num : List Int32 → Nat} {c : Nat} {E : EnvV} {g : pH} {e : Tr} {n l t : Nat} (h1 : Ox S e) (h2 : P.te c E e = some [t]) (h3 : RXn P num c E g e n l) (h4 : n + sz e ≤ 3200) (h5 : l + ls e ≤ 3200) : ItX P S num c E g (0, Int32.ofNat (n + sz e - 1)) (nx (P.flX c E e)) := Or.inl ⟨rfl, e, n, l, t, h1, h2, h3, rfl, h4, h5, rfl⟩
/-- the parts of a call, one behind the other -/
theorem spine_td {P : Pgm} {S : Tks} {num : List Int32 → Nat} {c : Nat} {E : EnvV} {g : pH} : ∀ (m : Nat) (s : Tr) (x : List Nat) (n l : Nat), OkSp (Ox S) m s → P.te c E s = some x → RXn P num c E g s n l → n + sz s ≤ 3200 → l + ls s ≤ 3200 → TdX P S num c E g ((if ownT s = true then [] else [(0, hdR s n)]) ++ (argR s n).map (fun j => ((0, Int32.ofNat j) : It))) (nx (P.flX c E s))
  | 0, s, x, n, l, hs, hx, hr, h1, h2 => by
    rcases hs with rfl | hs
    · exact rfl
    · have ho := hs
      obtain ⟨q, hq⟩ := hs
      have hown : ownT s = false := OkE.own hq
      obtain ⟨u, rfl, _⟩ := Ox.te_one (S := S) ho hx
      obtain ⟨k, v, w, a, b, rfl, hk1, hk2⟩ := ho.nd
      have hk50 : k ≠ 50 := by omega
      have ea : argR (nd k v w a b) n = [] := by rw [argR_nd, if_neg (by omega)]
      have eh : hdR (nd k v w a b) n = Int32.ofNat (n + sz (nd k v w a b) - 1) := by
        rw [hdR_nd, if_neg (by omega), if_neg hk50, sz_nd, if_neg (by omega), show n + (sz a + sz b + 1) - 1 = n + sz a + sz b by omega]
      rw [hown, ea, eh]
      exact TdX.one (It0 ho hx hr h1 h2)
  | m + 1, s, x, n, l, hs, hx, hr, h1, h2 => by
    obtain ⟨a, b, rfl, ha, hb⟩ := hs
    have hx : ((P.te c E a).bind fun x => (P.te c E b).bind fun y => P.opT c E 70 0 (x ++ y)) = some x := hx
    obtain ⟨xa, hxa, hx⟩ := Option.bind_eq_some_iff.mp hx
    obtain ⟨xb, hxb, hx⟩ := Option.bind_eq_some_iff.mp hx
    obtain ⟨u, rfl, _⟩ := Ox.te_one (S := S) hb hxb
    have hr := hr
    unfold eArg at hr h1 h2 ⊢
    rw [RXn_nd] at hr
    rw [sz_nd, if_pos (by omega)] at h1
    rw [ls_nd, if_neg (by omega)] at h2
    have ih := spine_td m a xa n l ha hxa hr.1 (by omega) (by omega)
    have ib := TdX.one (It0 hb hxb hr.2.1 (by omega) (by omega))
    have eo : ownT (nd 70 0 0 a b) = ownT a := rfl
    have eh : hdR (nd 70 0 0 a b) n = hdR a n := rfl
    have ea : argR (nd 70 0 0 a b) n = argR a n ++ [n + sz a + sz b - 1] := rfl
    rw [eo, eh, ea, List.map_append, ← List.append_assoc, Pgm.flX_nd, if_neg (show ¬ (70 = 28 ∨ 70 = 29) by omega), if_pos (show 70 = 70 from rfl), nx_app]
    exact ih.app ib
def tdB (n a k : Nat) : Prop := ((a = 201 ∨ a = 202) ∧ n ≤ k) ∨ (a = 138 ∧ k = 103)
theorem tdA.b {m n a k : Nat} (hm : n ≤ m) (h : tdA m a k) : tdB n a k := by unfold tdA at h; unfold tdB; omega
/-- the arguments are put there from the last on -/
theorem unf_64 {g : pH} {N j p : Nat} {v2 : Int32} {T : List It} : ∀ (d : Nat) (as : List Nat) (h : pH), StV g h → TdH T h → T.length + as.length < 400000 → (∀ i x, as[i]? = some x → rd g 149 (p + i) = Int32.ofNat x) → j < 3200 → p + as.length ≤ 3200 → rd g 146 j = Int32.ofNat p → as.length < d → ∃ h', fX12_unfold_64 N d 138 (Int32.ofNat j) v2 (Int32.ofNat as.length - 1) h = fX12_unfold_92 N 138 (Int32.ofNat j) v2 h' ∧ TdH (as.map (fun x => ((0, Int32.ofNat x) : It)) ++ T) h' ∧ Chg (tdB T.length) h h'
  | 0, as, h, st, ht, hl, ha, hj, hp, hg, hd => by omega
  | d + 1, as, h, st, ht, hl, ha, hj, hp, hg, hd => by
    rcases List.eq_nil_or_concat as with rfl | ⟨as', x, rfl⟩
    · refine ⟨h, ?_, ht, Chg.refl _ _⟩
      rw [fX12_unfold_64, if_pos (by decide)]
    · rw [List.concat_eq_append] at hl ha hp hd ⊢
      rw [List.length_append] at hl hp hd
      have e1 : [x].length = 1 := rfl
      have sg := st.1
      have hx := ha as'.length x (by rw [List.getElem?_append_right (Nat.le_refl _), Nat.sub_self]; rfl)
      obtain ⟨h1, f1, f2, f3⟩ := r_todo (N := N) (k := 0) (y := Int32.ofNat x) sg ht (by omega)
      have st1 : StV g h1 := st.chg f3 (fun a k z => by unfold tdA; omega)
      have hrec : ∃ h', fX12_unfold_64 N d 138 (Int32.ofNat j) v2 (Int32.ofNat as'.length - 1) h1 = fX12_unfold_92 N 138 (Int32.ofNat j) v2 h' ∧ TdH (as'.map (fun x => ((0, Int32.ofNat x) : It)) ++ ((0, Int32.ofNat x) :: T)) h' ∧ Chg (tdB ((0, Int32.ofNat x) :: T).length) h1 h' := unf_64 d as' h1 st1 f2 (by rw [List.length_cons]; omega) (fun i y hy => ha i y (by rw [List.getElem?_append_left (List.getElem?_eq_some_iff.mp hy).1]; exact hy)) hj (by omega) hg (by omega)
      obtain ⟨h2, g1, g2, g3⟩ := hrec
      refine ⟨h2, ?_, ?_, (f3.mono (fun a k z => z.b (Nat.le_refl _))).trans (g3.mono (fun a k z => by unfold tdB at z ⊢; rw [List.length_cons] at z; omega))⟩
      · rw [fX12_unfold_64, List.length_append, e1, i_sub1, if_neg (i_nneg (by omega)), R_138_22 sg, Option.bind_some, R_138_18 sg, Option.bind_some, L_146 sg hj, Option.bind_some, st.2.1 146 j (by omega) (by omega), hg, ← Int32.ofNat_add, L_149 sg (by omega), Option.bind_some, st.2.1 149 _ (by omega) (by omega), hx]
        rw [show fX12_todo N 138 0 (Int32.ofNat x) h = some h1 from f1, Option.bind_some, ← g1]
        have e3 : Int32.ofNat as'.length + (-1 : Int32) = Int32.ofNat as'.length - 1 := by
          rw [Int32.sub_eq_add_neg]
        rw [e3]
      · rw [List.map_append, List.append_assoc]
        exact g2
