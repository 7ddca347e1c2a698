/-! ===== THE REFERENCE moves: the objects ===== -/
section CM
variable {P : Pgm} {hp : List Ob} {H N : Nat} {B O B' O' : Nat → Nat} {L L' bl : List Nat}
theorem fld_sw {k188 : Nat → Int32 → Int32 → Int32 → pH → Option pH} {v1 v3 : Int32} {w off len : Nat} (hwo : w ≤ off) (hol : off + len ≤ 12000) : ∀ (r j d : Nat) (h : pH), j + r = len → Sg h → (∀ k, j ≤ k → k < len → Okw (rd h 191 (off + k)) (rd h 192 (off + k)) ∧ (rd h 192 (off + k) = 0 ∨ rd h 192 (off + k) = 1)) → ∃ h', fX12_sweep_265 N k188 (d + r) 138 v1 (Int32.ofNat w) v3 (Int32.ofNat off) (Int32.ofNat len) (Int32.ofNat j) h = fX12_sweep_265 N k188 d 138 v1 (Int32.ofNat w) v3 (Int32.ofNat off) (Int32.ofNat len) (Int32.ofNat len) h' ∧ Sg h' ∧ Chg (fun x k => (x = 191 ∨ x = 192) ∧ w + j ≤ k ∧ k < w + len) h h' ∧ ∀ k, j ≤ k → k < len → rd h' 191 (w + k) = mvs h (rd h 192 (off + k)) (rd h 191 (off + k)) ∧ rd h' 192 (w + k) = rd h 192 (off + k)
  | 0, j, d, h, hj, sg, ho => by
    obtain rfl : j = len := by omega
    exact ⟨h, rfl, sg, Chg.refl _ _, fun k h1 h2 => absurd h2 (by omega)⟩
  | r + 1, j, d, h, hj, sg, ho => by
    obtain ⟨o1, o2⟩ := ho j (by omega) (by omega)
    have s1 := sg.wr 191 (w + j) (mvs h (rd h 192 (off + j)) (rd h 191 (off + j)))
    have s2 := s1.wr 192 (w + j) (rd h 192 (off + j))
    have c2 : Chg (fun x k => (x = 191 ∨ x = 192) ∧ k = w + j) h (wr (wr h 191 (w + j) (mvs h (rd h 192 (off + j)) (rd h 191 (off + j)))) 192 (w + j) (rd h 192 (off + j))) := (Chg.wr h 191 _ _ (by omega)).trans (Chg.wr _ 192 _ _ (by omega))
    obtain ⟨h', a1, a2, a3, a4⟩ := fld_sw hwo hol r (j + 1) d _ (by omega) s2 (fun k k1 k2 => by
      rw [c2.2.2.1 _ _ (by omega), c2.2.2.1 _ _ (by omega)]
      exact ho k (by omega) k2)
    refine ⟨h', ?_, a2, (c2.mono (fun x k z => by omega)).trans (a3.mono (fun x k z => by omega)), fun k k1 k2 => ?_⟩
    · rw [← a1]
      show fX12_sweep_265 N k188 (d + r + 1) 138 v1 (Int32.ofNat w) v3 (Int32.ofNat off) (Int32.ofNat len) (Int32.ofNat j) h = _
      have e320 : fX12_sweep_320 N k188 (fX12_sweep_265 N k188 (d + r)) 138 v1 (Int32.ofNat w) v3 (Int32.ofNat off) (Int32.ofNat len) (Int32.ofNat j) 191 (Int32.ofNat (w + j)) (mvs h (rd h 192 (off + j)) (rd h 191 (off + j))) h = fX12_sweep_265 N k188 (d + r) 138 v1 (Int32.ofNat w) v3 (Int32.ofNat off) (Int32.ofNat len) (Int32.ofNat (j + 1)) (wr (wr h 191 (w + j) (mvs h (rd h 192 (off + j)) (rd h 191 (off + j)))) 192 (w + j) (rd h 192 (off + j))) := by
        unfold fX12_sweep_320
        rw [T_191 sg (by omega), Option.bind_some, R_138_92 s1, Option.bind_some, Option.bind_some, ← Int32.ofNat_add, ← Int32.ofNat_add, L_192 s1 (by omega), Option.bind_some, rd_wr_ne _ _ (by omega), T_192 s1 (by omega) o2, Option.bind_some, i_add1]
      rw [fX12_sweep_265, if_neg (show ¬ Int32.ofNat len ≤ Int32.ofNat j by rw [iLe (by omega) (by omega)]; omega), R_138_91 sg, Option.bind_some, R_138_92 sg, Option.bind_some, ← Int32.ofNat_add, ← Int32.ofNat_add, L_192 sg (by omega), Option.bind_some]
      by_cases f0 : rd h 192 (off + j) = 0
      · have e : mvs h (rd h 192 (off + j)) (rd h 191 (off + j)) = rd h 191 (off + j) := by unfold mvs; rw [if_pos f0]
        rw [if_pos f0, Option.bind_some, L_191 sg (by omega), Option.bind_some, if_neg (by decide), ← e320, e]
      · have e : mvs h (rd h 192 (off + j)) (rd h 191 (off + j)) = mvx h (rd h 191 (off + j)) := by unfold mvs; rw [if_neg f0]
        rw [if_neg f0, Option.bind_some, L_191 sg (by omega), Option.bind_some, r_moved sg (o1.resolve_left f0), Option.bind_some, if_neg (by decide), ← e320, e]
    · by_cases z : k = j
      · subst z
        rw [a3.2.2.1 _ _ (by omega), a3.2.2.1 _ _ (by omega), rd_wr_ne _ _ (by omega), W_191 sg, W_192 s1]
        exact ⟨rfl, rfl⟩
      · obtain ⟨z1, z2⟩ := a4 k (by omega) k2
        rw [z1, z2, mvs_of (h := h) (fun j => c2.2.2.1 _ _ (by omega)), c2.2.2.1 _ _ (by omega), c2.2.2.1 _ _ (by omega)]
        exact ⟨rfl, rfl⟩
def cmA (c w a k : Nat) : Prop := ((a = 185 ∨ a = 186 ∨ a = 187) ∧ c ≤ k) ∨ ((a = 191 ∨ a = 192) ∧ w ≤ k) ∨ (a = 138 ∧ (k = 82 ∨ k = 90))
theorem ObR.keep {h h' : pH} {i : Nat} (q : ObR hp B O L h i) (e1 : ∀ a, a = 185 ∨ a = 186 ∨ a = 187 → rd h' a (B i) = rd h a (B i)) (e2 : ∀ a j, a = 191 ∨ a = 192 → j < obL hp i → rd h' a (O i + j) = rd h a (O i + j)) : ObR hp B O L h' i := fun ob hob => by
  obtain ⟨q1, q2, q3, q4⟩ := q ob hob
  have hobl : obL hp i = ob.2.length := by unfold obL; rw [hob]
  refine ⟨(e1 _ (by omega)).trans q1, (e1 _ (by omega)).trans q2, (e1 _ (by omega)).trans q3, fun j v hj => ?_⟩
  have hjl := (List.getElem?_eq_some_iff.mp hj).1
  rw [e2 191 j (by omega) (by omega), e2 192 j (by omega) (by omega)]
  exact q4 j v hj
theorem cmp_sw {v1 : Nat} {hx : pH} (hN : 20000 ≤ N) (q0 : HpR hp H B O L hx) : ∀ (M : List Nat) (n a c w d : Nat) (h : pH), LyR hp B O M n a → LyR hp B' O' (kp bl M) c w → 5 ≤ n → c ≤ n → w ≤ a → n + M.length < 5200 → a + totL hp M ≤ 11000 → M.length < d → Sg h → rd h 138 82 = Int32.ofNat (n + M.length) → (∀ i, i ∈ M → rd h 188 (B i) = if i ∈ bl then 1 else 0) → (∀ i, i ∈ bl → B i < 5200 ∧ rd h 189 (B i) = Int32.ofNat (B' i) ∧ (i ∈ L' ∨ i < 5)) → (∀ i, i ∈ M → ObR hp B O L h i) → (∀ i, i ∈ M → i ∈ bl → ∀ ob : Ob, hp[i]? = some ob → ∀ x, Sum.inr (some x) ∈ ob.2 → x ∈ bl) → ∃ h', fX12_sweep_188 N d 138 (Int32.ofNat v1) (Int32.ofNat w) (Int32.ofNat n) h = some h' ∧ Sg h' ∧ rd h' 138 82 = Int32.ofNat v1 ∧ rd h' 138 90 = Int32.ofNat (w + totL hp (kp bl M)) ∧ Chg (cmA c w) h h' ∧ ∀ i, i ∈ kp bl M → ObR hp B' O' L' h' i
  | [], n, a, c, w, d + 1, h, q, q', h5, hcn, hwa, hl, hal, hd, sg, h82, hm, hB, hob, hcl => by
    have s1 := sg.wr 138 82 (Int32.ofNat v1)
    refine ⟨wr (wr h 138 82 (Int32.ofNat v1)) 138 90 (Int32.ofNat w), ?_, s1.wr 138 90 _, ?_, w_138_90 s1 _, (Chg.wr h 138 82 _ (by unfold cmA; omega)).trans (Chg.wr _ 138 90 _ (by unfold cmA; omega)), fun i hi => (by cases hi)⟩
    · have h82 : rd h 138 82 = Int32.ofNat n := h82
      rw [fX12_sweep_188, g_138_82 sg, Option.bind_some, h82, if_pos (Int32.le_refl _), p_138_82 sg, Option.bind_some, p_138_90 s1, Option.bind_some]
    · rw [rd_wr_ne _ _ (by omega), w_138_82 sg]
  | i :: M, n, a, c, w, d + 1, h, q, q', h5, hcn, hwa, hl, hal, hd, sg, h82, hm, hB, hob, hcl => by
    rw [List.length_cons] at hl h82 hd
    obtain ⟨q1, q2, q3, q4, q5, q6⟩ := q
    have hal' : a + (obL hp i + totL hp M) ≤ 11000 := hal
    have e188 : rd h 188 n = if i ∈ bl then 1 else 0 := by rw [← q1]; exact hm i (List.mem_cons_self ..)
    have hMb : ∀ j, j ∈ M → n + 1 ≤ B j ∧ a + obL hp i ≤ O j := fun j hj => by
      have := q6.bd j hj
      exact ⟨this.1, this.2.2.1⟩
    by_cases hi : i ∈ bl
    · rw [kp_pos hi] at q' ⊢
      obtain ⟨p1, p2, p3, p4, p5, p6⟩ := q'
      have hget : hp[i]? = some hp[i] := List.getElem?_eq_getElem q5
      obtain ⟨r1, r2, r3, r4⟩ := hob i (List.mem_cons_self ..) _ hget
      rw [q1] at r1 r2 r3
      rw [q2] at r2 r4
      have hobl : obL hp i = hp[i].2.length := by unfold obL; rw [hget]
      have e189 : rd h 189 n = Int32.ofNat c := by
        have := (hB i hi).2.1
        rw [q1, p1] at this
        exact this
      have s1 := sg.wr 185 c (clV hp[i].1)
      have s2 := s1.wr 186 c (Int32.ofNat w)
      have s3 := s2.wr 187 c (Int32.ofNat hp[i].2.length)
      have c3 : Chg (fun x k => (x = 185 ∨ x = 186 ∨ x = 187) ∧ k = c) h (wr (wr (wr h 185 c (clV hp[i].1)) 186 c (Int32.ofNat w)) 187 c (Int32.ofNat hp[i].2.length)) := (Chg.wr h 185 _ _ (by omega)).trans ((Chg.wr _ 186 _ _ (by omega)).trans (Chg.wr _ 187 _ _ (by omega)))
      have hrv : ∀ k, k < hp[i].2.length → ∃ v, hp[i].2[k]? = some v ∧ RV B L (rd h 191 (a + k)) (rd h 192 (a + k)) v := fun k hk => ⟨_, List.getElem?_eq_getElem hk, r4 k _ (List.getElem?_eq_getElem hk)⟩
      obtain ⟨e, he⟩ : ∃ e, N = e + 1 + hp[i].2.length := ⟨N - 1 - hp[i].2.length, by omega⟩
      obtain ⟨h4, a1, a2, a3, a4⟩ := fld_sw (N := N) (k188 := fX12_sweep_188 N d) (v1 := Int32.ofNat v1) (v3 := Int32.ofNat n) (w := w) (off := a) (len := hp[i].2.length) hwa (by omega) hp[i].2.length 0 (e + 1) _ (by omega) s3 (fun k k1 k2 => by
        obtain ⟨v, v1, v2⟩ := hrv k k2
        rw [c3.2.2.1 _ _ (by omega), c3.2.2.1 _ _ (by omega)]
        exact ⟨v2.okw q0, v2.f01⟩)
      have c4 : Chg (fun x k => ((x = 185 ∨ x = 186 ∨ x = 187) ∧ k = c) ∨ ((x = 191 ∨ x = 192) ∧ w ≤ k ∧ k < w + hp[i].2.length)) h h4 := (c3.mono (fun x k z => Or.inl z)).trans (a3.mono (fun x k z => Or.inr (by omega)))
      have n4 : ∀ x k, ¬ (((x = 185 ∨ x = 186 ∨ x = 187) ∧ k = c) ∨ ((x = 191 ∨ x = 192) ∧ w ≤ k ∧ k < w + hp[i].2.length)) → rd h4 x k = rd h x k := fun x k z => c4.2.2.1 _ _ z
      obtain ⟨h', b1, b2, b3, b4, b5, b6⟩ := cmp_sw hN q0 M (n + 1) _ (c + 1) _ d h4 q6 p6 (by omega) (by omega) (by omega) (by omega) (by omega) (by omega) a2 (by rw [n4 _ _ (by omega), h82]; congr 1; omega) (fun j hj => by rw [n4 _ _ (by omega)]; exact hm j (List.mem_cons_of_mem _ hj)) (fun j hj => by rw [n4 _ _ (by omega)]; exact hB j hj) (fun j hj => (hob j (List.mem_cons_of_mem _ hj)).keep (fun x hx => n4 _ _ (by have := hMb j hj; omega)) (fun x k hx hk => n4 _ _ (by have := hMb j hj; omega))) (fun j hj => hcl j (List.mem_cons_of_mem _ hj))
      refine ⟨h', ?_, b2, b3, ?_, (c4.mono (fun x k z => by unfold cmA; omega)).trans (b5.mono (fun x k z => by unfold cmA at z ⊢; omega)), fun j hj => ?_⟩
      · rw [fX12_sweep_188, g_138_82 sg, Option.bind_some, h82, if_neg (by rw [iLe (by omega) (by omega)]; omega), R_138_86 sg, Option.bind_some, L_188 sg (by omega), Option.bind_some, e188, if_pos hi, if_neg (by decide), R_138_87 sg, Option.bind_some, L_189 sg (by omega), Option.bind_some, e189, R_138_84 sg, Option.bind_some, L_186 sg (by omega), Option.bind_some, r2, R_138_85 sg, Option.bind_some, L_187 sg (by omega), Option.bind_some, r3, R_138_83 sg, Option.bind_some, Option.bind_some, L_185 sg (by omega), Option.bind_some, r1, T_185 sg (by omega), Option.bind_some, R_138_84 s1, Option.bind_some, T_186 s1 (by omega), Option.bind_some, R_138_85 s2, Option.bind_some, T_187 s2 (by omega), Option.bind_some]
        have e5 : fX12_sweep_265 N (fX12_sweep_188 N d) N 138 (Int32.ofNat v1) (Int32.ofNat w) (Int32.ofNat n) (Int32.ofNat a) (Int32.ofNat hp[i].2.length) 0 (wr (wr (wr h 185 c (clV hp[i].1)) 186 c (Int32.ofNat w)) 187 c (Int32.ofNat hp[i].2.length)) = fX12_sweep_265 N (fX12_sweep_188 N d) (e + 1 + hp[i].2.length) 138 (Int32.ofNat v1) (Int32.ofNat w) (Int32.ofNat n) (Int32.ofNat a) (Int32.ofNat hp[i].2.length) (Int32.ofNat 0) (wr (wr (wr h 185 c (clV hp[i].1)) 186 c (Int32.ofNat w)) 187 c (Int32.ofNat hp[i].2.length)) := by rw [← he]; rfl
        rw [e5, a1, fX12_sweep_265, if_pos (Int32.le_refl _)]
        unfold fX12_sweep_351
        rw [← Int32.ofNat_add, i_add1, ← hobl, b1]
      · rw [b4]
        show _ = Int32.ofNat (w + (obL hp i + totL hp (kp bl M)))
        congr 1
        omega
      · rcases List.mem_cons.mp hj with rfl | hj
        · intro ob hob'
          rw [hget] at hob'
          obtain rfl := Option.some.inj hob'
          have k5 : ∀ x k, ¬ cmA (c + 1) (w + obL hp j) x k → rd h' x k = rd h4 x k := fun x k z => b5.2.2.1 _ _ z
          rw [p1, p2]
          refine ⟨?_, ?_, ?_, fun k v hk => ?_⟩
          · rw [k5 _ _ (by unfold cmA; omega), a3.2.2.1 _ _ (by omega), rd_wr_ne _ _ (by omega), rd_wr_ne _ _ (by omega), W_185 sg]
          · rw [k5 _ _ (by unfold cmA; omega), a3.2.2.1 _ _ (by omega), rd_wr_ne _ _ (by omega), W_186 s1]
          · rw [k5 _ _ (by unfold cmA; omega), a3.2.2.1 _ _ (by omega), W_187 s2]
          · have hkl := (List.getElem?_eq_some_iff.mp hk).1
            obtain ⟨z1, z2⟩ := a4 k (by omega) hkl
            rw [k5 _ _ (by unfold cmA; omega), k5 _ _ (by unfold cmA; omega), z1, z2, mvs_of (h := h) (fun j => c3.2.2.1 _ _ (by omega)), c3.2.2.1 _ _ (by omega), c3.2.2.1 _ _ (by omega)]
            exact (r4 k v hk).mvd hB (fun x hx => hcl j (List.mem_cons_self ..) hi _ hget x (hx ▸ List.mem_of_getElem? hk))
        · exact b6 j hj
    · rw [kp_neg hi] at q' ⊢
      obtain ⟨h', b1, b2, b3, b4, b5, b6⟩ := cmp_sw hN q0 M (n + 1) _ c w d h q6 q' (by omega) (by omega) (by omega) (by omega) (by omega) (by omega) sg (by rw [h82]; congr 1; omega) (fun j hj => hm j (List.mem_cons_of_mem _ hj)) hB (fun j hj => hob j (List.mem_cons_of_mem _ hj)) (fun j hj => hcl j (List.mem_cons_of_mem _ hj))
      refine ⟨h', ?_, b2, b3, b4, b5, b6⟩
      rw [fX12_sweep_188, g_138_82 sg, Option.bind_some, h82, if_neg (by rw [iLe (by omega) (by omega)]; omega), R_138_86 sg, Option.bind_some, L_188 sg (by omega), Option.bind_some, e188, if_neg hi, if_pos rfl]
      unfold fX12_sweep_351
      rw [i_add1, b1]
end CM
