/-! ===== STATEMENTS IN THE CLASS' CODE ===== -/
/-- a row of statements, folded from its end -/
def foldB {β : Type} (z d : β) (fT : Nat → Nat → Nat → Tr → β → β) (fV : Nat → Nat → Nat → Tr → Tr → β → β) (fG : Nat → Tr → Tr → Tr → β → β) (fI : Nat → Tr → Tr → β → Nat → Tr → β → Tr → β → β) (fW : Nat → Tr → Tr → β → Tr → β → β) (fY : Nat → Tr → β → Nat → Nat → Tr → β → Tr → β → β) (fK : Nat → Nat → Tr → Tr → β → β) : Tr → β
  | .var _ => z
  | .op (.op (.var 53) (.op (.var p) (.var w))) (.op _ (.op (.op _ (.op (.var y) _)) (.op _ r))) => fT p y w r (foldB z d fT fV fG fI fW fY fK r)
  | .op (.op (.var 37) (.op (.var p) (.var w))) (.op e (.op (.op _ (.op (.var y) _)) (.op _ r))) => fV p y w e r (foldB z d fT fV fG fI fW fY fK r)
  | .op (.op (.var 31) (.op (.var p) _)) (.op x (.op _ (.op e r))) => fG p x e r (foldB z d fT fV fG fI fW fY fK r)
  | .op (.op (.var 38) (.op (.var p) (.var h))) (.op c (.op _ (.op a (.op _ (.op b r))))) => fI p c a (foldB z d fT fV fG fI fW fY fK a) h b (foldB z d fT fV fG fI fW fY fK b) r (foldB z d fT fV fG fI fW fY fK r)
  | .op (.op (.var 39) (.op (.var p) _)) (.op c (.op _ (.op a r))) => fW p c a (foldB z d fT fV fG fI fW fY fK a) r (foldB z d fT fV fG fI fW fY fK r)
  | .op (.op (.var 58) (.op (.var p) _)) (.op _ (.op _ (.op a (.op (.op _ (.op (.var c) (.var w))) (.op _ (.op _ (.op b r))))))) => fY p a (foldB z d fT fV fG fI fW fY fK a) c w b (foldB z d fT fV fG fI fW fY fK b) r (foldB z d fT fV fG fI fW fY fK r)
  | .op (.op (.var k) (.op (.var p) _)) (.op e r) => fK p k e r (foldB z d fT fV fG fI fW fY fK r)
  | _ => d
/-- how many pieces -/
def cb : Tr → Nat := foldB 0 0 (fun _ _ _ _ r => 1 + r) (fun _ _ _ e _ r => cl e + 1 + r) (fun _ x e _ r => (cl x - 1) + cl e + 1 + r) (fun _ c _ a h _ b _ r => cl c + 1 + a + 1 + (if h = 1 then b + 1 else 0) + r) (fun _ c _ a _ r => cl c + 1 + a + 1 + r) (fun _ _ a _ _ _ b _ r => 1 + a + 1 + b + 1 + r) (fun _ _ e _ r => cl e + 1 + r)
theorem cb_nl : cb nl = 0 := rfl
theorem cb_tell (p y w : Nat) (r : Tr) : cb (bTell p y w r) = 1 + cb r := rfl
theorem cb_tellv (p y w : Nat) (e r : Tr) : cb (bTellv p y w e r) = cl e + 1 + cb r := rfl
theorem cb_ret (p : Nat) (r : Tr) : cb (bRet p r) = 1 + cb r := by
  show cl nl + 1 + cb r = _
  rw [cl_nl]
  all_goals omega
theorem cb_drop (p : Nat) (e r : Tr) : cb (bDrop p e r) = cl e + 1 + cb r := rfl
theorem cb_w41 (p : Nat) (e r : Tr) : cb (bWork p 41 e r) = cl e + 1 + cb r := rfl
theorem cb_w42 (p : Nat) (e r : Tr) : cb (bWork p 42 e r) = cl e + 1 + cb r := rfl
theorem cb_w43 (p : Nat) (e r : Tr) : cb (bWork p 43 e r) = cl e + 1 + cb r := rfl
theorem cb_give (p : Nat) (x e r : Tr) : cb (bGive p x e r) = (cl x - 1) + cl e + 1 + cb r := rfl
theorem cb_ite (p : Nat) (c a : Tr) (h : Nat) (b r : Tr) : cb (bIte p c a h b r) = cl c + 1 + cb a + 1 + (if h = 1 then cb b + 1 else 0) + cb r := rfl
theorem cb_whil (p : Nat) (c a r : Tr) : cb (bWhil p c a r) = cl c + 1 + cb a + 1 + cb r := rfl
theorem cb_try (p : Nat) (a : Tr) (c w : Nat) (b r : Tr) : cb (bTry p a c w b r) = 1 + cb a + 1 + cb b + 1 + cb r := rfl
/-- a place without its last piece -/
def CM (Q : Nat → Nat → Nat → Nat → Nat → Prop) : Tr → Nat → Prop
  | .op (.op (.var _) (.op (.var _) (.var _))) (.op a b), c => CE Q a c ∧ CE Q b (c + cl a)
  | _, _ => True
/-- what gives to it, and the word of its name -/
def gk (x : Tr) : Nat := if kd x = 6 then 31 else if kd x = 9 then 34 else 36
def gw : Tr → Nat
  | .op (.op (.var _) (.op (.var _) (.var w))) _ => w
  | _ => 0
/-- pieces as they were emitted: place, try around, number; kind, two numbers, target -/
abbrev QB : Type := Int32 → Int32 → Nat → Nat → Nat → Nat → Nat → Prop
/-- the statements stand from c on, o is the try around them -/
def CB (Q : QB) : Tr → Nat → Int32 → Prop := foldB (fun _ _ => True) (fun _ _ => False)
  (fun p y w _ R c o => Q (Int32.ofNat p) o c 53 y w 0 ∧ R (c + 1) o)
  (fun p y w e _ R c o => CE (Q (Int32.ofNat p) o) e c ∧ Q (Int32.ofNat p) o (c + cl e) 37 y w 0 ∧ R (c + cl e + 1) o)
  (fun p x e _ R c o => CM (Q (Int32.ofNat p) o) x c ∧ CE (Q (Int32.ofNat p) o) e (c + (cl x - 1)) ∧ Q (Int32.ofNat p) o (c + (cl x - 1) + cl e) (gk x) 0 (gw x) 0 ∧ R (c + (cl x - 1) + cl e + 1) o)
  (fun p e a A h b B _ R c o => CE (Q (Int32.ofNat p) o) e c ∧ A (c + cl e + 1) o ∧ (if h = 1 then Q (Int32.ofNat p) o (c + cl e) 38 0 0 (c + cl e + 1 + cb a + 1) ∧ (∃ p', Q p' o (c + cl e + 1 + cb a) 54 0 0 (c + cl e + 1 + cb a + 1 + cb b)) ∧ B (c + cl e + 1 + cb a + 1) o ∧ (∃ p', Q p' o (c + cl e + 1 + cb a + 1 + cb b) 56 0 0 0) else Q (Int32.ofNat p) o (c + cl e) 38 0 0 (c + cl e + 1 + cb a) ∧ (∃ p', Q p' o (c + cl e + 1 + cb a) 55 0 0 0)) ∧ R (c + cl e + 1 + cb a + 1 + (if h = 1 then cb b + 1 else 0)) o)
  (fun p e a A _ R c o => CE (Q (Int32.ofNat p) o) e c ∧ A (c + cl e + 1) o ∧ Q (Int32.ofNat p) o (c + cl e) 39 0 0 (c + cl e + 1 + cb a + 1) ∧ (∃ p', Q p' o (c + cl e + 1 + cb a) 57 0 0 c) ∧ R (c + cl e + 1 + cb a + 1) o)
  (fun p a A cw w b B _ R c o => Q (Int32.ofNat p) o c 58 (c + 1 + cb a) 0 0 ∧ A (c + 1) (Int32.ofNat c) ∧ Q (Int32.ofNat p) o (c + 1 + cb a) 59 cw w (c + 1 + cb a + 1 + cb b) ∧ B (c + 1 + cb a + 1) o ∧ (∃ p', Q p' o (c + 1 + cb a + 1 + cb b) 60 0 0 0) ∧ R (c + 1 + cb a + 1 + cb b + 1) o)
  (fun p k e _ R c o => CE (Q (Int32.ofNat p) o) e c ∧ Q (Int32.ofNat p) o (c + cl e) k 0 0 0 ∧ R (c + cl e + 1) o)
theorem CB_nl (Q : QB) (c : Nat) (o : Int32) : CB Q nl c o := trivial
theorem CB_tell (Q : QB) (p y w : Nat) (r : Tr) (c : Nat) (o : Int32) : CB Q (bTell p y w r) c o = (Q (Int32.ofNat p) o c 53 y w 0 ∧ CB Q r (c + 1) o) := rfl
theorem CB_tellv (Q : QB) (p y w : Nat) (e r : Tr) (c : Nat) (o : Int32) : CB Q (bTellv p y w e r) c o = (CE (Q (Int32.ofNat p) o) e c ∧ Q (Int32.ofNat p) o (c + cl e) 37 y w 0 ∧ CB Q r (c + cl e + 1) o) := rfl
theorem CB_give (Q : QB) (p : Nat) (x e r : Tr) (c : Nat) (o : Int32) : CB Q (bGive p x e r) c o = (CM (Q (Int32.ofNat p) o) x c ∧ CE (Q (Int32.ofNat p) o) e (c + (cl x - 1)) ∧ Q (Int32.ofNat p) o (c + (cl x - 1) + cl e) (gk x) 0 (gw x) 0 ∧ CB Q r (c + (cl x - 1) + cl e + 1) o) := rfl
theorem CB_ret (Q : QB) (p : Nat) (r : Tr) (c : Nat) (o : Int32) : CB Q (bRet p r) c o = (CE (Q (Int32.ofNat p) o) nl c ∧ Q (Int32.ofNat p) o (c + cl nl) 40 0 0 0 ∧ CB Q r (c + cl nl + 1) o) := rfl
theorem CB_drop (Q : QB) (p : Nat) (e r : Tr) (c : Nat) (o : Int32) : CB Q (bDrop p e r) c o = (CE (Q (Int32.ofNat p) o) e c ∧ Q (Int32.ofNat p) o (c + cl e) 52 0 0 0 ∧ CB Q r (c + cl e + 1) o) := rfl
theorem CB_w {k : Nat} (hk : k = 41 ∨ k = 42 ∨ k = 43) (Q : QB) (p : Nat) (e r : Tr) (c : Nat) (o : Int32) : CB Q (bWork p k e r) c o = (CE (Q (Int32.ofNat p) o) e c ∧ Q (Int32.ofNat p) o (c + cl e) k 0 0 0 ∧ CB Q r (c + cl e + 1) o) := by
  rcases hk with rfl | rfl | rfl <;> rfl
theorem cb_w {k : Nat} (hk : k = 41 ∨ k = 42 ∨ k = 43) (p : Nat) (e r : Tr) : cb (bWork p k e r) = cl e + 1 + cb r := by
  rcases hk with rfl | rfl | rfl <;> rfl
theorem CB_ite (Q : QB) (p : Nat) (e a : Tr) (h : Nat) (b r : Tr) (c : Nat) (o : Int32) : CB Q (bIte p e a h b r) c o = (CE (Q (Int32.ofNat p) o) e c ∧ CB Q a (c + cl e + 1) o ∧ (if h = 1 then Q (Int32.ofNat p) o (c + cl e) 38 0 0 (c + cl e + 1 + cb a + 1) ∧ (∃ p', Q p' o (c + cl e + 1 + cb a) 54 0 0 (c + cl e + 1 + cb a + 1 + cb b)) ∧ CB Q b (c + cl e + 1 + cb a + 1) o ∧ (∃ p', Q p' o (c + cl e + 1 + cb a + 1 + cb b) 56 0 0 0) else Q (Int32.ofNat p) o (c + cl e) 38 0 0 (c + cl e + 1 + cb a) ∧ (∃ p', Q p' o (c + cl e + 1 + cb a) 55 0 0 0)) ∧ CB Q r (c + cl e + 1 + cb a + 1 + (if h = 1 then cb b + 1 else 0)) o) := rfl
theorem CB_whil (Q : QB) (p : Nat) (e a r : Tr) (c : Nat) (o : Int32) : CB Q (bWhil p e a r) c o = (CE (Q (Int32.ofNat p) o) e c ∧ CB Q a (c + cl e + 1) o ∧ Q (Int32.ofNat p) o (c + cl e) 39 0 0 (c + cl e + 1 + cb a + 1) ∧ (∃ p', Q p' o (c + cl e + 1 + cb a) 57 0 0 c) ∧ CB Q r (c + cl e + 1 + cb a + 1) o) := rfl
theorem CB_try (Q : QB) (p : Nat) (a : Tr) (cw w : Nat) (b r : Tr) (c : Nat) (o : Int32) : CB Q (bTry p a cw w b r) c o = (Q (Int32.ofNat p) o c 58 (c + 1 + cb a) 0 0 ∧ CB Q a (c + 1) (Int32.ofNat c) ∧ Q (Int32.ofNat p) o (c + 1 + cb a) 59 cw w (c + 1 + cb a + 1 + cb b) ∧ CB Q b (c + 1 + cb a + 1) o ∧ (∃ p', Q p' o (c + 1 + cb a + 1 + cb b) 60 0 0 0) ∧ CB Q r (c + 1 + cb a + 1 + cb b + 1) o) := rfl
/-- rows of statements as the reader makes them, of depth n -/
def OkB : Nat → Tr → Prop
  | 0, e => e = nl
  | n + 1, e => e = nl ∨ (∃ p y w r, e = bTell p y w r ∧ OkB n r) ∨ (∃ p y w x r, e = bTellv p y w x r ∧ OkB n r) ∨ (∃ p r, e = bRet p r ∧ OkB n r) ∨ (∃ p k x r, e = bWork p k x r ∧ (k = 41 ∨ k = 42 ∨ k = 43) ∧ OkB n r) ∨ (∃ p x r, e = bDrop p x r ∧ isCallE x = true ∧ OkB n r) ∨ (∃ p x y r, e = bGive p x y r ∧ isPlaceE x = true ∧ OkB n r) ∨ (∃ p x a h b r, e = bIte p x a h b r ∧ (h = 1 ∨ (h = 0 ∧ b = nl)) ∧ OkB n a ∧ OkB n b ∧ OkB n r) ∨ (∃ p x a r, e = bWhil p x a r ∧ OkB n a ∧ OkB n r) ∨ (∃ p a c w b r, e = bTry p a c w b r ∧ OkB n a ∧ OkB n b ∧ OkB n r)
theorem OkB.succ : ∀ {n : Nat} {e : Tr}, OkB n e → OkB (n + 1) e
  | 0, e, h => Or.inl h
  | n + 1, e, h => by
    rcases h with h | ⟨p, y, w, r, h1, h2⟩ | ⟨p, y, w, x, r, h1, h2⟩ | ⟨p, r, h1, h2⟩ | ⟨p, k, x, r, h1, h2, h3⟩ | ⟨p, x, r, h1, h2, h3⟩ | ⟨p, x, y, r, h1, h2, h3⟩ | ⟨p, x, a, h, b, r, h1, h2, h3, h4, h5⟩ | ⟨p, x, a, r, h1, h2, h3⟩ | ⟨p, a, c, w, b, r, h1, h2, h3, h4⟩
    · exact Or.inl h
    · exact Or.inr (Or.inl ⟨p, y, w, r, h1, h2.succ⟩)
    · exact Or.inr (Or.inr (Or.inl ⟨p, y, w, x, r, h1, h2.succ⟩))
    · exact Or.inr (Or.inr (Or.inr (Or.inl ⟨p, r, h1, h2.succ⟩)))
    · exact Or.inr (Or.inr (Or.inr (Or.inr (Or.inl ⟨p, k, x, r, h1, h2, h3.succ⟩))))
    · exact Or.inr (Or.inr (Or.inr (Or.inr (Or.inr (Or.inl ⟨p, x, r, h1, h2, h3.succ⟩)))))
    · exact Or.inr (Or.inr (Or.inr (Or.inr (Or.inr (Or.inr (Or.inl ⟨p, x, y, r, h1, h2, h3.succ⟩))))))
    · exact Or.inr (Or.inr (Or.inr (Or.inr (Or.inr (Or.inr (Or.inr (Or.inl ⟨p, x, a, h, b, r, h1, h2, h3.succ, h4.succ, h5.succ⟩)))))))
    · exact Or.inr (Or.inr (Or.inr (Or.inr (Or.inr (Or.inr (Or.inr (Or.inr (Or.inl ⟨p, x, a, r, h1, h2.succ, h3.succ⟩))))))))
    · exact Or.inr (Or.inr (Or.inr (Or.inr (Or.inr (Or.inr (Or.inr (Or.inr (Or.inr ⟨p, a, c, w, b, r, h1, h2.succ, h3.succ, h4.succ⟩))))))))
theorem OkB.le {n m : Nat} {e : Tr} (h : OkB n e) (hm : n ≤ m) : OkB m e := by
  obtain ⟨d, rfl⟩ : ∃ d, m = n + d := ⟨m - n, by omega⟩
  clear hm
  induction d with
  | zero => exact h
  | succ d ih => exact OkB.succ ih
theorem OkB.nl (n : Nat) : OkB n nl := by
  cases n with
  | zero => rfl
  | succ n => exact Or.inl rfl
/-- one statement as the reader makes it, with blocks of depth n -/
def OkS (n : Nat) (e : Tr) : Prop := (∃ p y w, e = bTell p y w nl) ∨ (∃ p y w x, e = bTellv p y w x nl) ∨ (∃ p, e = bRet p nl) ∨ (∃ p k x, e = bWork p k x nl ∧ (k = 41 ∨ k = 42 ∨ k = 43)) ∨ (∃ p x, e = bDrop p x nl ∧ isCallE x = true) ∨ (∃ p x y, e = bGive p x y nl ∧ isPlaceE x = true) ∨ (∃ p x a h b, e = bIte p x a h b nl ∧ (h = 1 ∨ (h = 0 ∧ b = nl)) ∧ OkB n a ∧ OkB n b) ∨ (∃ p x a, e = bWhil p x a nl ∧ OkB n a) ∨ (∃ p a c w b, e = bTry p a c w b nl ∧ OkB n a ∧ OkB n b)
theorem OkS.seq {n m : Nat} {e r : Tr} (h : OkS n e) (hr : OkB m r) : OkB (n + m + 1) (bSeq e r) := by
  have hr' : OkB (n + m) r := hr.le (by omega)
  have up : ∀ {a : Tr}, OkB n a → OkB (n + m) a := fun z => z.le (by omega)
  rcases h with ⟨p, y, w, rfl⟩ | ⟨p, y, w, x, rfl⟩ | ⟨p, rfl⟩ | ⟨p, k, x, rfl, hk⟩ | ⟨p, x, rfl, hk⟩ | ⟨p, x, y, rfl, hk⟩ | ⟨p, x, a, h, b, rfl, h2, h3, h4⟩ | ⟨p, x, a, rfl, h2⟩ | ⟨p, a, c, w, b, rfl, h2, h3⟩
  · exact Or.inr (Or.inl ⟨p, y, w, r, rfl, hr'⟩)
  · exact Or.inr (Or.inr (Or.inl ⟨p, y, w, x, r, rfl, hr'⟩))
  · exact Or.inr (Or.inr (Or.inr (Or.inl ⟨p, r, rfl, hr'⟩)))
  · exact Or.inr (Or.inr (Or.inr (Or.inr (Or.inl ⟨p, k, x, r, rfl, hk, hr'⟩))))
  · exact Or.inr (Or.inr (Or.inr (Or.inr (Or.inr (Or.inl ⟨p, x, r, rfl, hk, hr'⟩)))))
  · exact Or.inr (Or.inr (Or.inr (Or.inr (Or.inr (Or.inr (Or.inl ⟨p, x, y, r, rfl, hk, hr'⟩))))))
  · exact Or.inr (Or.inr (Or.inr (Or.inr (Or.inr (Or.inr (Or.inr (Or.inl ⟨p, x, a, h, b, r, rfl, h2, up h3, up h4, hr'⟩)))))))
  · exact Or.inr (Or.inr (Or.inr (Or.inr (Or.inr (Or.inr (Or.inr (Or.inr (Or.inl ⟨p, x, a, r, rfl, up h2, hr'⟩))))))))
  · exact Or.inr (Or.inr (Or.inr (Or.inr (Or.inr (Or.inr (Or.inr (Or.inr (Or.inr ⟨p, a, c, w, b, r, rfl, up h2, up h3, hr'⟩))))))))
theorem OkS.len {n : Nat} {e : Tr} (h : OkS n e) (r : Tr) : cb (bSeq e r) = cb e + cb r := by
  rcases h with ⟨p, y, w, rfl⟩ | ⟨p, y, w, x, rfl⟩ | ⟨p, rfl⟩ | ⟨p, k, x, rfl, hk⟩ | ⟨p, x, rfl, hk⟩ | ⟨p, x, y, rfl, hk⟩ | ⟨p, x, a, h, b, rfl, h2, h3, h4⟩ | ⟨p, x, a, rfl, h2⟩ | ⟨p, a, c, w, b, rfl, h2, h3⟩
  · show cb (bTell p y w r) = _
    rw [cb_tell, cb_tell, cb_nl]
  · show cb (bTellv p y w x r) = _
    rw [cb_tellv, cb_tellv, cb_nl]
    all_goals omega
  · show cb (bRet p r) = _
    rw [cb_ret, cb_ret, cb_nl]
  · show cb (bWork p k x r) = _
    rw [cb_w hk, cb_w hk, cb_nl]
    all_goals omega
  · show cb (bDrop p x r) = _
    rw [cb_drop, cb_drop, cb_nl]
    all_goals omega
  · show cb (bGive p x y r) = _
    rw [cb_give, cb_give, cb_nl]
    all_goals omega
  · show cb (bIte p x a h b r) = _
    rw [cb_ite, cb_ite, cb_nl]
    all_goals omega
  · show cb (bWhil p x a r) = _
    rw [cb_whil, cb_whil, cb_nl]
    all_goals omega
  · show cb (bTry p a c w b r) = _
    rw [cb_try, cb_try, cb_nl]
    all_goals omega
theorem OkS.code {n : Nat} {e : Tr} (h : OkS n e) {Q : QB} {r : Tr} {c : Nat} {o : Int32} (q1 : CB Q e c o) (q2 : CB Q r (c + cb e) o) : CB Q (bSeq e r) c o := by
  rcases h with ⟨p, y, w, rfl⟩ | ⟨p, y, w, x, rfl⟩ | ⟨p, rfl⟩ | ⟨p, k, x, rfl, hk⟩ | ⟨p, x, rfl, hk⟩ | ⟨p, x, y, rfl, hk⟩ | ⟨p, x, a, h, b, rfl, h2, h3, h4⟩ | ⟨p, x, a, rfl, h2⟩ | ⟨p, a, d, w, b, rfl, h2, h3⟩
  · rw [cb_tell, cb_nl] at q2
    exact ⟨q1.1, q2⟩
  · rw [cb_tellv, cb_nl, Nat.add_zero, ← Nat.add_assoc] at q2
    exact ⟨q1.1, q1.2.1, q2⟩
  · rw [cb_ret, cb_nl] at q2
    exact ⟨q1.1, q1.2.1, q2⟩
  · rw [cb_w hk, cb_nl, Nat.add_zero, ← Nat.add_assoc] at q2
    rw [CB_w hk] at q1
    show CB Q (bWork p k x r) c o
    rw [CB_w hk]
    exact ⟨q1.1, q1.2.1, q2⟩
  · rw [cb_drop, cb_nl, Nat.add_zero, ← Nat.add_assoc] at q2
    exact ⟨q1.1, q1.2.1, q2⟩
  · rw [cb_give, cb_nl, Nat.add_zero, ← Nat.add_assoc, ← Nat.add_assoc] at q2
    exact ⟨q1.1, q1.2.1, q1.2.2.1, q2⟩
  · rw [cb_ite, cb_nl, Nat.add_zero] at q2
    rw [show c + (cl x + 1 + cb a + 1 + if h = 1 then cb b + 1 else 0) = c + cl x + 1 + cb a + 1 + (if h = 1 then cb b + 1 else 0) by omega] at q2
    exact ⟨q1.1, q1.2.1, q1.2.2.1, q2⟩
  · rw [cb_whil, cb_nl, Nat.add_zero, show c + (cl x + 1 + cb a + 1) = c + cl x + 1 + cb a + 1 by omega] at q2
    exact ⟨q1.1, q1.2.1, q1.2.2.1, q1.2.2.2.1, q2⟩
  · rw [cb_try, cb_nl, Nat.add_zero, show c + (1 + cb a + 1 + cb b + 1) = c + 1 + cb a + 1 + cb b + 1 by omega] at q2
    exact ⟨q1.1, q1.2.1, q1.2.2.1, q1.2.2.2.1, q1.2.2.2.2.1, q2⟩
theorem CM_no {Q : Nat → Nat → Nat → Nat → Nat → Prop} {e : Tr} (he : ∀ k v w a b, e ≠ nd k v w a b) (c : Nat) : CM Q e c := by
  unfold CM
  split
  · exact absurd rfl (he _ _ _ _ _)
  · trivial
theorem CM.mono {Q Q' : Nat → Nat → Nat → Nat → Nat → Prop} {x : Tr} {c : Nat} (hq : ∀ i k v w g, c ≤ i → i < c + (cl x - 1) → Q i k v w g → Q' i k v w g) (hx : isPlaceE x = true) (h : CM Q x c) : CM Q' x c := by
  induction x using Tr.rec2 with
  | h2 e he => exact CM_no he c
  | h1 k v w a b iha ihb =>
    have hk : k = 6 ∨ k = 9 ∨ k = 12 := by
      have hx : (k == 6 || k == 9 || k == 12) = true := hx
      simp at hx
      omega
    rw [cl_nd, if_neg (by omega), if_neg (by omega)] at hq
    exact ⟨CE.mono a _ (fun i k v w g i1 i2 => hq i k v w g i1 (by omega)) h.1, CE.mono b _ (fun i k v w g i1 i2 => hq i k v w g (by omega) (by omega)) h.2⟩
/-- other pieces behind, the same pieces here -/
theorem CB.mono {Q Q' : QB} : ∀ (n : Nat) (e : Tr) (c : Nat) (o : Int32), OkB n e → (∀ p o i k v w g, c ≤ i → i < c + cb e → Q p o i k v w g → Q' p o i k v w g) → CB Q e c o → CB Q' e c o
  | 0, e, c, o, hk, _, _ => by rw [show e = nl from hk]; trivial
  | n + 1, e, c, o, hk, hq, h => by
    rcases hk with rfl | ⟨p, y, w, r, rfl, h2⟩ | ⟨p, y, w, x, r, rfl, h2⟩ | ⟨p, r, rfl, h2⟩ | ⟨p, k, x, r, rfl, hk, h2⟩ | ⟨p, x, r, rfl, hk, h2⟩ | ⟨p, x, y, r, rfl, hk, h2⟩ | ⟨p, x, a, f, b, r, rfl, hk, ha, hb, h2⟩ | ⟨p, x, a, r, rfl, ha, h2⟩ | ⟨p, a, d, w, b, r, rfl, ha, hb, h2⟩
    · trivial
    · rw [cb_tell] at hq
      exact ⟨hq _ _ _ _ _ _ _ (by omega) (by omega) h.1, CB.mono n r _ o h2 (fun p o i k v w g i1 i2 => hq p o i k v w g (by omega) (by omega)) h.2⟩
    · rw [cb_tellv] at hq
      exact ⟨CE.mono x _ (fun i k v w g i1 i2 => hq _ _ i k v w g (by omega) (by omega)) h.1, hq _ _ _ _ _ _ _ (by omega) (by omega) h.2.1, CB.mono n r _ o h2 (fun p o i k v w g i1 i2 => hq p o i k v w g (by omega) (by omega)) h.2.2⟩
    · rw [cb_ret] at hq
      exact ⟨CE_nl _ _, hq _ _ _ _ _ _ _ (by omega) (by rw [cl_nl]; omega) h.2.1, CB.mono n r _ o h2 (fun p o i k v w g i1 i2 => hq p o i k v w g (by rw [cl_nl] at i1; omega) (by rw [cl_nl] at i2; omega)) h.2.2⟩
    · rw [cb_w hk] at hq
      rw [CB_w hk] at h ⊢
      exact ⟨CE.mono x _ (fun i k v w g i1 i2 => hq _ _ i k v w g (by omega) (by omega)) h.1, hq _ _ _ _ _ _ _ (by omega) (by omega) h.2.1, CB.mono n r _ o h2 (fun p o i k v w g i1 i2 => hq p o i k v w g (by omega) (by omega)) h.2.2⟩
    · rw [cb_drop] at hq
      exact ⟨CE.mono x _ (fun i k v w g i1 i2 => hq _ _ i k v w g (by omega) (by omega)) h.1, hq _ _ _ _ _ _ _ (by omega) (by omega) h.2.1, CB.mono n r _ o h2 (fun p o i k v w g i1 i2 => hq p o i k v w g (by omega) (by omega)) h.2.2⟩
    · rw [cb_give] at hq
      exact ⟨h.1.mono (fun i k v w g i1 i2 => hq _ _ i k v w g (by omega) (by omega)) hk, CE.mono y _ (fun i k v w g i1 i2 => hq _ _ i k v w g (by omega) (by omega)) h.2.1, hq _ _ _ _ _ _ _ (by omega) (by omega) h.2.2.1, CB.mono n r _ o h2 (fun p o i k v w g i1 i2 => hq p o i k v w g (by omega) (by omega)) h.2.2.2⟩
    · rw [cb_ite] at hq
      rw [CB_ite] at h ⊢
      obtain ⟨h1, h3, h4, h5⟩ := h
      refine ⟨CE.mono x _ (fun i k v w g i1 i2 => hq _ _ i k v w g (by omega) (by omega)) h1, CB.mono n a _ o ha (fun p o i k v w g i1 i2 => hq p o i k v w g (by omega) (by omega)) h3, ?_, CB.mono n r _ o h2 (fun p o i k v w g i1 i2 => hq p o i k v w g (by omega) (by omega)) h5⟩
      by_cases hf : f = 1
      · rw [if_pos hf] at h4 hq ⊢
        obtain ⟨g1, ⟨p2, g2⟩, g3, ⟨p4, g4⟩⟩ := h4
        exact ⟨hq _ _ _ _ _ _ _ (by omega) (by omega) g1, ⟨p2, hq _ _ _ _ _ _ _ (by omega) (by omega) g2⟩, CB.mono n b _ o hb (fun p o i k v w g i1 i2 => hq p o i k v w g (by omega) (by omega)) g3, ⟨p4, hq _ _ _ _ _ _ _ (by omega) (by omega) g4⟩⟩
      · rw [if_neg hf] at h4 hq ⊢
        obtain ⟨g1, ⟨p2, g2⟩⟩ := h4
        exact ⟨hq _ _ _ _ _ _ _ (by omega) (by omega) g1, ⟨p2, hq _ _ _ _ _ _ _ (by omega) (by omega) g2⟩⟩
    · rw [cb_whil] at hq
      rw [CB_whil] at h ⊢
      obtain ⟨h1, h3, h4, ⟨p5, h5⟩, h6⟩ := h
      exact ⟨CE.mono x _ (fun i k v w g i1 i2 => hq _ _ i k v w g (by omega) (by omega)) h1, CB.mono n a _ o ha (fun p o i k v w g i1 i2 => hq p o i k v w g (by omega) (by omega)) h3, hq _ _ _ _ _ _ _ (by omega) (by omega) h4, ⟨p5, hq _ _ _ _ _ _ _ (by omega) (by omega) h5⟩, CB.mono n r _ o h2 (fun p o i k v w g i1 i2 => hq p o i k v w g (by omega) (by omega)) h6⟩
    · rw [cb_try] at hq
      rw [CB_try] at h ⊢
      obtain ⟨h1, h3, h4, h5, ⟨p6, h6⟩, h7⟩ := h
      exact ⟨hq _ _ _ _ _ _ _ (by omega) (by omega) h1, CB.mono n a _ _ ha (fun p o i k v w g i1 i2 => hq p o i k v w g (by omega) (by omega)) h3, hq _ _ _ _ _ _ _ (by omega) (by omega) h4, CB.mono n b _ o hb (fun p o i k v w g i1 i2 => hq p o i k v w g (by omega) (by omega)) h5, ⟨p6, hq _ _ _ _ _ _ _ (by omega) (by omega) h6⟩, CB.mono n r _ o h2 (fun p o i k v w g i1 i2 => hq p o i k v w g (by omega) (by omega)) h7⟩
