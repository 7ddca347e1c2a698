/-! ===== THE CLASS makes an object ===== -/
theorem fill_10 {N r : Nat} {n1 : Nat} {b : Nat} : ∀ (d a : Nat) (h : pH), sh h r = some (6, n1, []) → n1 < 2 ^ 31 → b ≤ n1 → a ≤ b → b - a < d → ∃ h', fJ7_fill_bad5a_10 N d r (Int32.ofNat b) 0 (Int32.ofNat a) h = some h' ∧ (∀ x, sh h' x = sh h x) ∧ (∀ x k, rd h' x k = rd h x k) ∧ (∀ x k, ¬ (x = r ∧ a ≤ k ∧ k < b) → rdJ h' x k = rdJ h x k) ∧ ∀ k, a ≤ k → k < b → rdJ h' r k = 0
  | 0, a, h, q, h1, h2, h3, h4 => by omega
  | d + 1, a, h, q, h1, h2, h3, h4 => by
    rcases Nat.lt_or_ge a b with z | z
    · have e1 := stJ_sh (0 : Int64) q (i := a) (by omega) h1
      have q2 : sh (wrJ h r a 0) r = some (6, n1, []) := (sh_wrJ _ _ _ _ _).trans q
      obtain ⟨h', f1, f2, f3, f4, f5⟩ := fill_10 (N := N) d (a + 1) (wrJ h r a 0) q2 h1 h2 z (by omega)
      refine ⟨h', ?_, fun x => (f2 x).trans (sh_wrJ _ _ _ _ x), fun x k => (f3 x k).trans (rd_wrJ _ _ _ _ _ _), fun x k hn => ?_, fun k k1 k2 => ?_⟩
      · rw [fJ7_fill_bad5a_10, if_neg (by rw [iLe (by omega) (by omega)]; omega), e1, Option.bind_some, i_add1]
        exact f1
      · rw [f4 x k (by omega), rdJ_wrJ_ne _ _ (by omega)]
      · by_cases y : k = a
        · subst y
          rw [f4 r k (by omega)]
          exact rdJ_wrJ_eq 0 q
        · exact f5 k (by omega) k2
    · refine ⟨h, ?_, fun _ => rfl, fun _ _ => rfl, fun _ _ _ => rfl, fun k k1 k2 => by omega⟩
      rw [fJ7_fill_bad5a_10, if_pos (by rw [iLe (by omega) (by omega)]; omega)]
theorem l_ofN {n : Nat} (h : n < 2 ^ 31) : (Int32.ofNat n).toInt64 = Int64.ofNat n := by
  apply Int64.toInt_inj.mp
  rw [Int32.toInt_toInt64, Int32.toInt_ofNat_of_lt h, Int64.toInt_ofNat_of_lt (by omega)]
theorem l_lt {a b : Nat} (ha : a < 2 ^ 62) (hb : b < 2 ^ 62) : (Int64.ofNat a < Int64.ofNat b) ↔ a < b := by
  rw [Int64.lt_iff_toInt_lt, Int64.toInt_ofNat_of_lt (by omega), Int64.toInt_ofNat_of_lt (by omega)]
  omega
theorem lc_gt (a b : Int64) : 0 < lg_cmp a b ↔ b < a := by
  unfold lg_cmp
  by_cases h1 : a > b
  · rw [if_pos h1]
    exact ⟨fun _ => h1, fun _ => by decide⟩
  · rw [if_neg h1]
    by_cases h2 : a = b
    · rw [if_pos h2]
      exact ⟨fun q => absurd q (by decide), fun q => absurd q h1⟩
    · rw [if_neg h2]
      exact ⟨fun q => absurd q (by decide), fun q => absurd q h1⟩
theorem e3_room {h : pH} {N H T n : Nat} (hs : Sg h) (h3 : rd h 129 3 = Int32.ofNat H) (h2 : rd h 129 2 = Int32.ofNat (6 + T)) (hT : T ≤ H) (hH : H ≤ 10000) (hn : n < 2 ^ 31) : fX3_hasRoom N 129 ((2 : Int64) + (Int32.ofNat n).toInt64) h = some (if T + (2 + n) ≤ H then 1 else 0, h) := by
  have e1 : Int32.ofNat (6 + T) - 6 = Int32.ofNat T := i_sub 6 T
  have e2 : (2 : Int64) + (Int32.ofNat n).toInt64 = Int64.ofNat (2 + n) := by
    rw [l_ofN hn, Int64.ofNat_add]
    rfl
  unfold fX3_hasRoom fX3_cellsUsed
  rw [if_pos (o_129 hs), g_129_3 hs, Option.bind_some, if_pos (o_129 hs), g_129_2 hs, Option.bind_some, Option.bind_some]
  dsimp only
  rw [h3, h2, e1, i_subk hT, e2, l_ofN (by omega)]
  by_cases z : T + (2 + n) ≤ H
  · rw [if_pos z, if_neg (fun q => by rw [lc_gt, l_lt (by omega) (by omega)] at q; omega)]
  · rw [if_neg z, if_pos (by rw [lc_gt, l_lt (by omega) (by omega)]; omega)]
theorem obL_app {hp : List Ob} {ob : Ob} {i : Nat} (h : i < hp.length) : obL (hp ++ [ob]) i = obL hp i := by
  unfold obL
  rw [List.getElem?_append_left h]
theorem tot_hp {hp : List Ob} {ob : Ob} : ∀ {L : List Nat}, (∀ i, i ∈ L → i < hp.length) → tot (hp ++ [ob]) L = tot hp L
  | [], _ => rfl
  | i :: L, h => by
    show 2 + obL _ i + tot _ L = 2 + obL hp i + tot hp L
    rw [obL_app (h i (List.mem_cons_self ..)), tot_hp (fun j hj => h j (List.mem_cons_of_mem _ hj))]
theorem Lay.hp {hp : List Ob} {A : Nat → Nat} {ob : Ob} : ∀ {L : List Nat} {a : Nat}, Lay hp A L a → Lay (hp ++ [ob]) A L a
  | [], _, _ => trivial
  | i :: L, a, h => by
    obtain ⟨h1, h2, h3, h4, h5⟩ := h
    refine ⟨h1, h2, h3, by rw [List.length_append]; show i < hp.length + 1; omega, ?_⟩
    rw [obL_app h4]
    exact Lay.hp h5
theorem mk_obj {P : Pgm} {g h : pH} {G : Gs} {A : Nat → Nat} {L : List Nat} {N : Nat} {ob : Ob} {cw : Int32} (hN : 12000 ≤ N) (ho : HO P G.1) (hb : Bse g G A L h) (hc : cw.toInt64 = clW ob.1) (hr : tot G.1 L + (2 + ob.2.length) ≤ G.2.2.2.2) (hv : ∀ v, v ∈ ob.2 → v = .inl 0 ∨ v = .inr none) : ∃ h', fX3_makeObject N 129 cw (Int32.ofNat ob.2.length) h = some (wO (6 + tot G.1 L), h') ∧ Bse g (G.1 ++ [ob], G.2) (fun j => if j = G.1.length then 6 + tot G.1 L else A j) (L ++ [G.1.length]) h' ∧ (∀ b, sh h' b = sh h b) ∧ (∀ a k, ¬ (a = 129 ∧ k = 2) → rd h' a k = rd h a k) ∧ ∀ a k, a ≠ cR h → rdJ h' a k = rdJ h a k := by
  have sg := hb.1.1
  obtain ⟨p1, p2, p3, p4, p5, p6, p7⟩ := hb.2.2.2
  have hro := sg.rows.1
  have hhl : 5 ≤ G.1.length := by
    have := ho.1 4 (by omega)
    have := (List.getElem?_eq_some_iff.mp this).1
    omega
  have hiL : ∀ i, i ∈ L → i < G.1.length := fun i hi => (p2.mem i hi).2.2.2
  have hnL : G.1.length ∉ L := fun z => Nat.lt_irrefl _ (hiL _ z)
  have s1 := sg.wrJ (cR h) (6 + tot G.1 L) cw.toInt64
  have ec1 : cR (wrJ h (cR h) (6 + tot G.1 L) cw.toInt64) = cR h := cR_of (fun b => sh_wrJ _ _ _ _ b)
  have t1 := T_c sg (i := 6 + tot G.1 L) (by omega) cw.toInt64
  have t2 := T_c s1 (i := 6 + tot G.1 L + 1) (by omega) (Int32.ofNat ob.2.length).toInt64
  rw [ec1] at t2
  have s2 := s1.wrJ (cR h) (6 + tot G.1 L + 1) (Int32.ofNat ob.2.length).toInt64
  have hsh2 : ∀ b, sh (wrJ (wrJ h (cR h) (6 + tot G.1 L) cw.toInt64) (cR h) (6 + tot G.1 L + 1) (Int32.ofNat ob.2.length).toInt64) b = sh h b := fun b => (sh_wrJ _ _ _ _ b).trans (sh_wrJ _ _ _ _ b)
  have W1 := W_c sg (6 + tot G.1 L) cw.toInt64
  have W2 := W_c s1 (6 + tot G.1 L + 1) (Int32.ofNat ob.2.length).toInt64
  rw [ec1] at W2
  obtain ⟨h3, f1, f2, f3, f4, f5⟩ := fill_10 (N := N) (r := cR h) (n1 := 10006) (b := 6 + tot G.1 L + 2 + ob.2.length) N (6 + tot G.1 L + 2) _ ((hsh2 _).trans (sh_c sg)) (by omega) (by omega) (by omega) (by omega)
  have s3 : Sg h3 := s2.of f2
  have hsh3 : ∀ b, sh h3 b = sh h b := fun b => (f2 b).trans (hsh2 b)
  have rd3 : ∀ a k, rd h3 a k = rd h a k := fun a k => (f3 a k).trans ((rd_wrJ _ _ _ _ _ _).trans (rd_wrJ _ _ _ _ _ _))
  have rj3 : ∀ a k, ¬ (a = cR h ∧ 6 + tot G.1 L ≤ k ∧ k < 6 + tot G.1 L + 2 + ob.2.length) → rdJ h3 a k = rdJ h a k := fun a k n => by
    rw [f4 a k (by omega), rdJ_wrJ_ne _ _ (by omega), rdJ_wrJ_ne _ _ (by omega)]
  have hsh4 : ∀ b, sh (wr h3 129 2 (Int32.ofNat (6 + tot G.1 L + 2 + ob.2.length))) b = sh h b := fun b => (sh_wr _ _ _ _ b).trans (hsh3 b)
  have ec4 := cR_of hsh4
  refine ⟨wr h3 129 2 (Int32.ofNat (6 + tot G.1 L + 2 + ob.2.length)), ?_, ?_, hsh4, fun a k n => by rw [rd_wr_ne _ _ (fun z => n ⟨z.1.symm, z.2.symm⟩), rd3], fun a k n => by rw [rdJ_wr, rj3 a k (fun z => n z.1)]⟩
  · have e1 : (10004 : Int32) - Int32.ofNat (6 + tot G.1 L) = Int32.ofNat (10004 - (6 + tot G.1 L)) := i_subk (a := 10004) (by omega)
    have e2 : Int32.ofNat (6 + tot G.1 L + 2) + Int32.ofNat ob.2.length = Int32.ofNat (6 + tot G.1 L + 2 + ob.2.length) := (Int32.ofNat_add _ _).symm
    unfold fX3_makeObject
    rw [if_pos (o_129 sg), g_129_2 sg, Option.bind_some, p3, if_neg (i_nneg (by omega)), e1, if_pos (by rw [iLe (by omega) (by omega)]; omega), R_129_0 sg, Option.bind_some, t1, Option.bind_some, R_129_0 s1, Option.bind_some, ec1, i_add1, t2, Option.bind_some, R_129_0 s2, Option.bind_some, cR_of hsh2, i_add2, e2]
    unfold fJ7_fill_bad5a fJ7_rangeCheck_23922
    rw [if_neg (by omega), lenA_sh ((hsh2 _).trans (sh_c sg)) (by decide) (by decide), Option.bind_some, if_pos (by rw [iLe (by omega) (by omega)]; omega), if_pos (i_nn0 (by omega)), if_pos (by rw [iLe (by omega) (by omega)]; omega), Option.bind_some, f1, Option.bind_some, p_129_2 s3, Option.bind_some]
    rfl
  · refine ⟨⟨s3.wr _ _ _, fun a k x1 x2 => by rw [rd_wr_ne _ _ (by omega), rd3]; exact hb.1.2 a k x1 x2⟩, fun i hi => ?_, ?_, ?_, ?_, ?_, ?_, p5, ?_, fun i hi o' ho' => ?_⟩
    · rw [rdJ_wr, rdJ_wr, rj3 _ _ (by omega), rj3 _ _ (by omega)]
      exact hb.2.1 i hi
    · obtain ⟨b1, b2, b3, b4, b5, z, b6, b7, b8, b9, b10⟩ := hb.2.2.1
      exact ⟨by rw [rd_wr_ne _ _ (by omega), rd3]; exact b1, by rw [rd_wr_ne _ _ (by omega), rd3]; exact b2, by rw [rd_wr_ne _ _ (by omega), rd3]; exact b3, by rw [rd_wr_ne _ _ (by omega), rd3]; exact b4, fun j x h1 h2 => by rw [rd_wr_ne _ _ (by omega), rd3]; exact b5 j x h1 h2, z, by rw [rd_wr_ne _ _ (by omega), rd3]; exact b6, b7, by rw [rd_wr_ne _ _ (by omega), rd3]; exact b8, b9, fun j x h1 => by rw [rd_wr_ne _ _ (by omega), rd3]; exact b10 j x h1⟩
    · intro i hi
      dsimp only
      rw [if_neg (by omega)]
      exact p1 i hi
    · refine Lay.app p2.hp hnL hhl (by rw [List.length_append]; show _ < _ + 1; omega) ?_
      rw [tot_hp hiL]
    · rw [w_129_2 s3, tot_app, tot_hp hiL]
      show _ = Int32.ofNat (6 + (tot G.1 L + (2 + obL (G.1 ++ [ob]) G.1.length + 0)))
      rw [obL_get (app_get G.1 ob), show 6 + tot G.1 L + 2 + ob.2.length = 6 + (tot G.1 L + (2 + ob.2.length + 0)) by omega]
    · rw [tot_app, tot_hp hiL]
      show tot G.1 L + (2 + obL (G.1 ++ [ob]) G.1.length + 0) ≤ G.2.2.2.2
      rw [obL_get (app_get G.1 ob)]
      omega
    · rw [rd_wr_ne _ _ (by omega), rd3]; exact p6
    · rw [ec4]
      dsimp only
      have hext : ∀ x : Nat, (x ∈ L ∨ x < 5) → (x ∈ L ++ [G.1.length] ∨ x < 5) ∧ (if x = G.1.length then 6 + tot G.1 L else A x) = A x := fun x hx => by
        have hxi : x ≠ G.1.length := by
          rintro rfl
          rcases hx with y | y
          · exact hnL y
          · omega
        rw [if_neg hxi]
        exact ⟨hx.imp (fun y => List.mem_append.mpr (Or.inl y)) (fun y => y), rfl⟩
      rcases List.mem_append.mp hi with y | y
      · have hil := hiL i y
        have hne : i ≠ G.1.length := by omega
        have ho' : (G.1 ++ [ob])[i]? = some o' := ho'
        rw [List.getElem?_append_left hil] at ho'
        have ml := p2.mem i y
        rw [obL_get ho'] at ml
        obtain ⟨d1, d2, d3⟩ := p7 i y o' ho'
        rw [if_neg hne]
        refine ⟨by rw [rdJ_wr, rj3 _ _ (by omega)]; exact d1, by rw [rdJ_wr, rj3 _ _ (by omega)]; exact d2, fun j v hj => ?_⟩
        have := (List.getElem?_eq_some_iff.mp hj).1
        rw [rdJ_wr, rj3 _ _ (by omega)]
        exact (d3 j v hj).mono hext
      · obtain rfl := List.mem_singleton.mp y
        have ho' : (G.1 ++ [ob])[G.1.length]? = some o' := ho'
        rw [app_get] at ho'
        obtain rfl := Option.some.inj ho'
        rw [if_pos rfl]
        refine ⟨?_, ?_, fun j v hj => ?_⟩
        · rw [rdJ_wr, f4 _ _ (by omega), rdJ_wrJ_ne _ _ (by omega), W1]
          exact hc
        · rw [rdJ_wr, f4 _ _ (by omega), W2]
        · have := (List.getElem?_eq_some_iff.mp hj).1
          rw [rdJ_wr, f5 _ (by omega) (by omega)]
          rcases hv v (List.mem_of_getElem? hj) with rfl | rfl
          · exact ⟨wN_0.symm, okV_inl _ _⟩
          · exact Ww.nul
theorem Bse.made {g h : pH} {G : Gs} {A : Nat → Nat} {L : List Nat} {n : Nat} (hb : Bse g G A L h) : Bse g (G.1, G.2.1, G.2.2.1, (G.2.2.2.1.1, G.2.2.2.1.2.1 + n, G.2.2.2.1.2.2), G.2.2.2.2) A L (wr h 128 16 (Int32.ofNat (G.2.2.2.1.2.1 + n))) := by
  have sg := hb.1.1
  have c1 : Cg (fun k => k = 16) (fun _ => False) (fun _ => False) h (wr h 128 16 (Int32.ofNat (G.2.2.2.1.2.1 + n))) := Cg.wr h 16 _ rfl
  refine ⟨c1.st hb.1, c1.ft sg hb.2.1, ?_, c1.hp sg hb.2.2.2⟩
  obtain ⟨b1, b2, b3, b4, b5, z, b6, b7, b8, b9, b10⟩ := hb.2.2.1
  exact ⟨by rw [rd_wr_ne _ _ (by omega)]; exact b1, w_128_16 sg _, by rw [rd_wr_ne _ _ (by omega)]; exact b3, by rw [rd_wr_ne _ _ (by omega)]; exact b4, fun j x h1 h2 => by rw [rd_wr_ne _ _ (by omega)]; exact b5 j x h1 h2, z, by rw [rd_wr_ne _ _ (by omega)]; exact b6, b7, by rw [rd_wr_ne _ _ (by omega)]; exact b8, b9, fun j x h1 => by rw [rd_wr_ne _ _ (by omega)]; exact b10 j x h1⟩
/-- room, and then the object -/
theorem mk_57 {P : Pgm} {C : Cx} {U N : Nat} {g h : pH} {G : Gs} {A : Nat → Nat} {L : List Nat} {i : Nat × Nat × Nat} {lo : List Vl} {ops : List (Bool × Vl)} {E : EnvV} {xs : List Xi} {ks : List Si} {fs : List Fm} {b t M X pc : Nat} {ob : Ob} {kk v2 : Int32} {o : Int32} (hN : 12000 ≤ N) (ho : HO P G.1) (hb : Bse g G A L h) (h13 : rd h 128 13 = 0) (h14 : rd h 128 14 = 0) (h6 : rd h 128 6 = Int32.ofNat t) (h11 : rd h 128 11 = Int32.ofNat (fs.length + 1)) (h12 : rd h 128 12 = Int32.ofNat (pc + 1)) (hF : FrK A L h g fs.length (i, lo, ops, E, xs, ks) b t M X 1) (hL : LwC P C U g A L h fs (b - 1) i.2.2) (hcd : ∃ s, XC P C i.1 E g o xs (pc + 1) s ∧ KC P C i.1 (P.mty i.2.1) M X U g ks s o) (hl : ob.2.length < 2 ^ 31) (hk : (kk = 14 ∧ ob.1 = none) ∨ (kk ≠ 14 ∧ v2.toInt64 = clW ob.1)) (hv : ∀ v, v ∈ ob.2 → v = .inl 0 ∨ v = .inr none) : ∃ h1 pc', fX5_make_57 N 128 kk v2 (Int32.ofNat ob.2.length) ((2 : Int64) + (Int32.ofNat ob.2.length).toInt64) h = some (0, h1) ∧ CRs P C U g h1 (if tot G.1 L + (2 + ob.2.length) ≤ G.2.2.2.2 then ((G.1 ++ [ob], G.2.1, G.2.2.1, (G.2.2.2.1.1, G.2.2.2.1.2.1 + (2 + ob.2.length), G.2.2.2.1.2.2), G.2.2.2.2), .inl ((i, lo, (false, .inr (some G.1.length)) :: ops, E, xs, ks) :: fs)) else (G, .inr (3, 0))) pc' ∧ Out h h1 := by
  have sg := hb.1.1
  obtain ⟨p1, p2, p3, p4, p5, p6, p7⟩ := hb.2.2.2
  have er := e3_room (N := N) (n := ob.2.length) sg p6 p3 p4 p5 hl
  unfold fX5_make_57
  rw [R_128_4 sg, Option.bind_some, er, Option.bind_some]
  dsimp only
  by_cases hr : tot G.1 L + (2 + ob.2.length) ≤ G.2.2.2.2
  · rw [if_pos hr, if_pos hr, if_neg (by decide)]
    have e2 : ((2 : Int64) + (Int32.ofNat ob.2.length).toInt64).toInt32 = Int32.ofNat (2 + ob.2.length) := by
      rw [Int64.toInt32_add, Int32.toInt32_toInt64, Int32.ofNat_add]
      rfl
    have hb1 := hb.made (n := 2 + ob.2.length)
    have c1 : Cg (fun k => k = 16) (fun _ => False) (fun _ => False) h (wr h 128 16 (Int32.ofNat (G.2.2.2.1.2.1 + (2 + ob.2.length)))) := Cg.wr h 16 _ rfl
    have s1 := c1.sg sg
    have htop := hF.top
    have hF1 := hF.ag (c1.pg (n := fs.length) (t := t) (fun _ z => z.elim) (fun _ z => z.elim) sg) (Nat.le_refl _)
    have hb1' := hF.2.2.2.1
    have k9 : t = b + M + ops.length := hF.2.2.2.2.2.2.2.2.1
    have hL1 := hL.ag (c1.pg (n := fs.length) (t := b) (fun _ z => z.elim) (fun _ z => z.elim) sg) (Nat.le_refl _) (by omega)
    have key : ∀ cw : Int32, cw.toInt64 = clW ob.1 → ∃ h1 pc', fX5_make_104 N (Int32.ofNat ob.2.length) 128 129 cw (wr h 128 16 (Int32.ofNat (G.2.2.2.1.2.1 + (2 + ob.2.length)))) = some (0, h1) ∧ CRs P C U g h1 ((G.1 ++ [ob], G.2.1, G.2.2.1, (G.2.2.2.1.1, G.2.2.2.1.2.1 + (2 + ob.2.length), G.2.2.2.1.2.2), G.2.2.2.2), .inl ((i, lo, (false, .inr (some G.1.length)) :: ops, E, xs, ks) :: fs)) pc' ∧ Out h h1 := fun cw hcw => by
      obtain ⟨h2, f1, f2, f3, f4, f5⟩ := mk_obj (N := N) (P := P) (ob := ob) hN (G := (G.1, G.2.1, G.2.2.1, (G.2.2.2.1.1, G.2.2.2.1.2.1 + (2 + ob.2.length), G.2.2.2.1.2.2), G.2.2.2.2)) ho hb1 hcw hr hv
      have s2 := f2.1.1
      have hap := s1.apart
      have hnL : ∀ x : Nat, (x ∈ L ∨ x < 5) → (x ∈ L ++ [G.1.length] ∨ x < 5) ∧ (if x = G.1.length then 6 + tot G.1 L else A x) = A x := fun x hx => by
        have hhl : 5 ≤ G.1.length := by
          have := ho.1 4 (by omega)
          have := (List.getElem?_eq_some_iff.mp this).1
          omega
        have hxi : x ≠ G.1.length := by
          rintro rfl
          rcases hx with y | y
          · exact Nat.lt_irrefl _ (p2.mem _ y).2.2.2
          · omega
        rw [if_neg hxi]
        exact ⟨hx.imp (fun y => List.mem_append.mpr (Or.inl y)) (fun y => y), rfl⟩
      have ep := pileR_of f3
      have eN := pileN_of f3
      have hcr := s1.rows.1
      have pg2 : ∀ T n, PgA n T (wr h 128 16 (Int32.ofNat (G.2.2.2.1.2.1 + (2 + ob.2.length)))) h2 := fun T n => ⟨f3, fun k => ⟨f4 _ _ (by omega), f4 _ _ (by omega), f5 _ _ (by omega)⟩, fun k _ => f4 _ _ (by omega), fun k _ => f5 _ _ (by omega)⟩
      have hF2 := (hF1.ag (pg2 t 0) (Nat.le_refl _)).mono hnL
      have hL2 := (hL1.ag (pg2 b fs.length) (Nat.le_refl _) (by omega)).mono hnL
      have h62 : rd h2 128 6 = Int32.ofNat t := by rw [f4 _ _ (by omega), rd_wr_ne _ _ (by omega)]; exact h6
      have htp : t < pileN h2 := by rw [eN, pileN_wr]; omega
      obtain ⟨h3, g1, g2, g3, g4⟩ := e5_push s2 h62 htp N (wO (6 + tot G.1 L))
      have cg : Cg (fun k => k = 6) (fun _ => False) (fun k => k = t) h2 h3 := g2.cg rfl
      refine ⟨h3, pc + 1, ?_, ⟨t + 1, ?_, ?_, _, _, cg.bse (fun k z => Or.inl z) f2, b, M, X, o, ?_, hcd, ?_, g3, ?_, ?_⟩, ?_⟩
      · unfold fX5_make_104
        rw [f1, Option.bind_some]
        dsimp only
        rw [g1, Option.bind_some]
      · rw [g2.2.2.1 _ _ (by omega), f4 _ _ (by omega), rd_wr_ne _ _ (by omega)]; exact h13
      · rw [g2.2.2.1 _ _ (by omega), f4 _ _ (by omega), rd_wr_ne _ _ (by omega)]; exact h14
      · refine (hF2.ag (cg.pg (n := fs.length) (t := t) (fun _ z => z.elim) (fun k z => Nat.le_of_eq z.symm) s2) (Nat.le_refl _)).push ?_ ?_
        · rw [pileR_of g2.1, g4]
          refine ⟨?_, okV_ob (Or.inl (List.mem_append.mpr (Or.inr (List.mem_singleton.mpr rfl))))⟩
          show _ = wO (if G.1.length = G.1.length then 6 + tot G.1 L else A G.1.length)
          rw [if_pos rfl]
        · have := hF.2.2.2.2.2.2.2.2.2.2.2.2.2
          rw [show 0 + (ops.length + 1) = 1 + ops.length by omega]
          exact this
      · exact hL2.ag (cg.pg (n := fs.length) (t := b) (fun _ z => z.elim) (fun k z => by omega) s2) (Nat.le_refl _) (by omega)
      · rw [g2.2.2.1 _ _ (by omega), f4 _ _ (by omega), rd_wr_ne _ _ (by omega)]; exact h11
      · rw [g2.2.2.1 _ _ (by omega), f4 _ _ (by omega), rd_wr_ne _ _ (by omega)]; exact h12
      · exact c1.out.trans (Out.trans ⟨fun a k ha => f4 a k (by omega), eN⟩ cg.out)
    rw [g_128_16 sg, Option.bind_some, hb.2.2.1.2.1, e2, ← Int32.ofNat_add, p_128_16 sg, Option.bind_some, R_128_4 s1, Option.bind_some]
    rcases hk with ⟨rfl, hk⟩ | ⟨hk1, hk⟩
    · rw [if_pos rfl, if_neg (by omega)]
      exact key (-1) (by rw [hk]; rfl)
    · rw [if_neg hk1, if_neg (by omega)]
      exact key v2 hk
  · rw [if_neg hr, if_neg hr, if_pos rfl]
    have c1 : Cg (fun k => k = 13) (fun _ => False) (fun _ => False) h (wr h 128 13 3) := Cg.wr h 13 _ rfl
    refine ⟨_, 0, ?_, ⟨c1.st hb.1, c1.ft sg hb.2.1, c1.cn (fun k z => by unfold QF; omega) hb.2.2.1, w_128_13 sg _, ?_, by omega, by omega⟩, c1.out⟩
    · rw [p_128_13 sg, Option.bind_some]
    · rw [rd_wr_ne _ _ (by omega)]; exact h14
/-- a new object, or no room -/
theorem mk_cls {P : Pgm} {S : Tks} {C : Cx} {D : List Int32 → Prop} {num : List Int32 → Nat} {N : Nat} {g h : pH} {G : Gs} {A : Nat → Nat} {L : List Nat} {i : Nat × Nat × Nat} {lo : List Vl} {ops : List (Bool × Vl)} {E : EnvV} {xs : List Xi} {ks : List Si} {fs : List Fm} {b t M X pc : Nat} {ob : Ob} {kk v2 : Int32} {o : Int32} (hN : 12000 ≤ N) (hst : Stc P S C D num g) (ho : HO P G.1) (hb : Bse g G A L h) (h13 : rd h 128 13 = 0) (h14 : rd h 128 14 = 0) (h6 : rd h 128 6 = Int32.ofNat t) (h11 : rd h 128 11 = Int32.ofNat (fs.length + 1)) (h12 : rd h 128 12 = Int32.ofNat (pc + 1)) (h133 : rd h 133 fs.length = Int32.ofNat pc) (hpc : pc < 3100) (e44 : rd g 44 pc = Int32.ofNat lo.length) (hn : fs.length < 100) (hF : FrK A L h g fs.length (i, lo, ops, E, xs, ks) b t M X 1) (hL : LwC P C (msK P.ms) g A L h fs (b - 1) i.2.2) (hcd : ∃ s, XC P C i.1 E g o xs (pc + 1) s ∧ KC P C i.1 (P.mty i.2.1) M X (msK P.ms) g ks s o) (hl : ob.2.length < 2 ^ 31) (hk : (kk = 14 ∧ ob.1 = none) ∨ (kk ≠ 14 ∧ v2.toInt64 = clW ob.1)) (hv : ∀ v, v ∈ ob.2 → v = .inl 0 ∨ v = .inr none) (hfo : ∀ f', f' ∈ (i, lo, ops, E, xs, ks) :: fs → f'.1.2.1 < 1000 ∧ f'.2.2.1.length ≤ 1999) : ∃ h1 pc', fX5_make_23 N 128 kk v2 (Int32.ofNat ob.2.length) h = some (0, h1) ∧ CRs P C (msK P.ms) g h1 (mkO G i lo ops E xs ks fs ob) pc' ∧ Out h h1 := by
  have sg := hb.1.1
  obtain ⟨p1, p2, p3, p4, p5, p6, p7⟩ := hb.2.2.2
  have er := e3_room (N := N) (n := ob.2.length) sg p6 p3 p4 p5 hl
  have hu := used_ge (C := C) ho hb hF hL
  unfold fX5_make_23 mkO
  rw [if_pos (i_nn0 hl), R_128_4 sg, Option.bind_some, er, Option.bind_some]
  dsimp only
  by_cases hr : tot G.1 L + (2 + ob.2.length) ≤ G.2.2.2.2
  · rw [if_pos hr, if_neg (by decide), if_pos (by omega)]
    have := mk_57 (C := C) (U := msK P.ms) (N := N) (ob := ob) hN ho hb h13 h14 h6 h11 h12 hF hL hcd hl hk hv
    rw [if_pos hr] at this
    exact this
  · rw [if_neg hr, if_pos rfl]
    obtain ⟨h1, A1, L1, a1, a2, a3, a4, a5, a6, a7, a8⟩ := reach_cls (N := N) hN hst ho hb hF hL h6 h11 hpc h133 e44 hn hfo
    rw [a1, Option.bind_some]
    obtain ⟨h2, pc', b1, b2, b3⟩ := mk_57 (C := C) (U := msK P.ms) (N := N) (ob := ob) hN ho a2 ((a8 _ _ (by omega)).trans h13) ((a8 _ _ (by omega)).trans h14) ((a8 _ _ (by omega)).trans h6) ((a8 _ _ (by omega)).trans h11) ((a8 _ _ (by omega)).trans h12) a4 a5 hcd hl hk hv
    rw [a3] at b2
    exact ⟨h2, pc', b1, b2, Out.trans ⟨fun a k ha => a8 a k (by omega), a7⟩ b3⟩
