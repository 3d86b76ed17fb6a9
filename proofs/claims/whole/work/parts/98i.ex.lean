/-! expressions: terms and operators in lock-step -/
/-- which items an expression gives: 0 a term, 1 an expression, 2 a call, 3 n values; o signs are open, from token p and w bytes of strings on -/
def GXr (s0 : iS) (Q : Nat → Nat → Nat → Nat → Nat → Nat → Nat → List itm → Prop) : Prop :=
  (∀ (o p w : Nat) (v : Int), -1 ≤ v ∧ v ≤ 32767 → Q 0 o p w (p + 1) w 0 [(0, v, 0, (p : Int))]) ∧
  (∀ (o p w k : Nat), s0 9 p = 5 → s0 11 p = (k : Int) → Q 0 o p w (p + 1) (w + k) 0 [(1, 0, 0, (p : Int))]) ∧
  (∀ (o p w : Nat), Q 0 o p w (p + 1) w 0 [(3, 0, 0, (p : Int))]) ∧
  (∀ (o p w : Nat), s0 9 p = 3 → Q 0 o p w (p + 1) w 0 [(4, 0, 0, (p : Int))]) ∧
  (∀ (o p w p' w' : Nat) (l : List itm), o < 25 → Q 1 (o + 1) (p + 1) w p' w' 0 l → Q 0 o p w (p' + 1) w' 0 l) ∧
  (∀ (o p w p' w' : Nat) (l : List itm) (a j : Int), o < 25 → (a = 7 ∨ a = 8) → Q 0 (o + 1) (p + 1) w p' w' 0 l → Q 0 o p w p' w' 0 (l ++ [(a, 0, 0, j)])) ∧
  (∀ (o p w p' w' : Nat) (l : List itm) (j : Int), s0 9 p = 3 → o < 25 → Q 1 (o + 1) (p + 2) w p' w' 0 l → Q 0 o p w (p' + 1) w' 0 ((4, 0, 0, (p : Int)) :: l ++ [(5, 0, 0, j)])) ∧
  (∀ (o p w p' w' : Nat) (l : List itm), Q 2 o p w p' w' 0 l → Q 0 o p w p' w' 0 l) ∧
  (∀ (o p w p' w' : Nat) (l : List itm), Q 0 o p w p' w' 0 l → Q 1 o p w p' w' 0 l) ∧
  (∀ (o p w p1 w1 p2 w2 : Nat) (l1 l2 : List itm) (c j : Int), Q 1 o p w p1 w1 0 l1 → c ∈ sO → Q 0 o (p1 + 1) w1 p2 w2 0 l2 → Q 1 o p w p2 w2 0 (l1 ++ (l2 ++ [(6, c, 0, j)]))) ∧
  (∀ (o p w p' w' a : Nat) (l : List itm), s0 9 p = 3 → o < 25 → Q 3 (o + 1) (p + 2) w p' w' a l → Q 2 o p w (p' + 1) w' 0 ((9, -1, (p : Int), 0) :: l ++ [(10, -1, (p : Int), (a : Int))])) ∧
  (∀ (o p w p' w' a : Nat) (l : List itm), s0 9 p = 3 → s0 9 (p + 2) = 3 → o < 25 → Q 3 (o + 1) (p + 4) w p' w' a l → Q 2 o p w (p' + 1) w' 0 ((9, (p : Int), ((p + 2 : Nat) : Int), 0) :: l ++ [(10, (p : Int), ((p + 2 : Nat) : Int), (a : Int))])) ∧
  (∀ (o p w : Nat), Q 3 o p w p w 0 []) ∧
  (∀ (o p w p' w' : Nat) (l : List itm), Q 1 o p w p' w' 0 l → Q 3 o p w p' w' 1 l) ∧
  (∀ (o p w p1 w1 p2 w2 a : Nat) (l1 l2 : List itm), Q 3 o p w p1 w1 (a + 1) l1 → Q 1 o (p1 + 1) w1 p2 w2 0 l2 → Q 3 o p w p2 w2 (a + 2) (l1 ++ l2))
def GX (s0 : iS) (g o p w p' w' n : Nat) (l : List itm) : Prop := ∀ Q : Nat → Nat → Nat → Nat → Nat → Nat → Nat → List itm → Prop, GXr s0 Q → Q g o p w p' w' n l
theorem GX.num {s0 : iS} (o p w : Nat) (v : Int) (h1 : -1 ≤ v ∧ v ≤ 32767) : GX s0 0 o p w (p + 1) w 0 [(0, v, 0, (p : Int))] := fun Q h => h.1 o p w v h1
theorem GX.str {s0 : iS} (o p w k : Nat) (h0 : s0 9 p = 5) (h1 : s0 11 p = (k : Int)) : GX s0 0 o p w (p + 1) (w + k) 0 [(1, 0, 0, (p : Int))] := fun Q h => h.2.1 o p w k h0 h1
theorem GX.ths {s0 : iS} (o p w : Nat) : GX s0 0 o p w (p + 1) w 0 [(3, 0, 0, (p : Int))] := fun Q h => h.2.2.1 o p w 
theorem GX.var {s0 : iS} (o p w : Nat) (h1 : s0 9 p = 3) : GX s0 0 o p w (p + 1) w 0 [(4, 0, 0, (p : Int))] := fun Q h => h.2.2.2.1 o p w h1
theorem GX.par {s0 : iS} (o p w p' w' : Nat) (l : List itm) (h1 : o < 25) (h2 : GX s0 1 (o + 1) (p + 1) w p' w' 0 l) : GX s0 0 o p w (p' + 1) w' 0 l := fun Q h => h.2.2.2.2.1 o p w p' w' l h1 (h2 Q h)
theorem GX.sgn {s0 : iS} (o p w p' w' : Nat) (l : List itm) (a j : Int) (h1 : o < 25) (h2 : (a = 7 ∨ a = 8)) (h3 : GX s0 0 (o + 1) (p + 1) w p' w' 0 l) : GX s0 0 o p w p' w' 0 (l ++ [(a, 0, 0, j)]) := fun Q h => h.2.2.2.2.2.1 o p w p' w' l a j h1 h2 (h3 Q h)
theorem GX.idx {s0 : iS} (o p w p' w' : Nat) (l : List itm) (j : Int) (h1 : s0 9 p = 3) (h2 : o < 25) (h3 : GX s0 1 (o + 1) (p + 2) w p' w' 0 l) : GX s0 0 o p w (p' + 1) w' 0 ((4, 0, 0, (p : Int)) :: l ++ [(5, 0, 0, j)]) := fun Q h => h.2.2.2.2.2.2.1 o p w p' w' l j h1 h2 (h3 Q h)
theorem GX.call {s0 : iS} (o p w p' w' : Nat) (l : List itm) (h1 : GX s0 2 o p w p' w' 0 l) : GX s0 0 o p w p' w' 0 l := fun Q h => h.2.2.2.2.2.2.2.1 o p w p' w' l (h1 Q h)
theorem GX.one {s0 : iS} (o p w p' w' : Nat) (l : List itm) (h1 : GX s0 0 o p w p' w' 0 l) : GX s0 1 o p w p' w' 0 l := fun Q h => h.2.2.2.2.2.2.2.2.1 o p w p' w' l (h1 Q h)
theorem GX.op {s0 : iS} (o p w p1 w1 p2 w2 : Nat) (l1 l2 : List itm) (c j : Int) (h1 : GX s0 1 o p w p1 w1 0 l1) (h2 : c ∈ sO) (h3 : GX s0 0 o (p1 + 1) w1 p2 w2 0 l2) : GX s0 1 o p w p2 w2 0 (l1 ++ (l2 ++ [(6, c, 0, j)])) := fun Q h => h.2.2.2.2.2.2.2.2.2.1 o p w p1 w1 p2 w2 l1 l2 c j (h1 Q h) h2 (h3 Q h)
theorem GX.cal {s0 : iS} (o p w p' w' a : Nat) (l : List itm) (h1 : s0 9 p = 3) (h2 : o < 25) (h3 : GX s0 3 (o + 1) (p + 2) w p' w' a l) : GX s0 2 o p w (p' + 1) w' 0 ((9, -1, (p : Int), 0) :: l ++ [(10, -1, (p : Int), (a : Int))]) := fun Q h => h.2.2.2.2.2.2.2.2.2.2.1 o p w p' w' a l h1 h2 (h3 Q h)
theorem GX.dot {s0 : iS} (o p w p' w' a : Nat) (l : List itm) (h1 : s0 9 p = 3) (h2 : s0 9 (p + 2) = 3) (h3 : o < 25) (h4 : GX s0 3 (o + 1) (p + 4) w p' w' a l) : GX s0 2 o p w (p' + 1) w' 0 ((9, (p : Int), ((p + 2 : Nat) : Int), 0) :: l ++ [(10, (p : Int), ((p + 2 : Nat) : Int), (a : Int))]) := fun Q h => h.2.2.2.2.2.2.2.2.2.2.2.1 o p w p' w' a l h1 h2 h3 (h4 Q h)
theorem GX.a0 {s0 : iS} (o p w : Nat) : GX s0 3 o p w p w 0 [] := fun Q h => h.2.2.2.2.2.2.2.2.2.2.2.2.1 o p w 
theorem GX.a1 {s0 : iS} (o p w p' w' : Nat) (l : List itm) (h1 : GX s0 1 o p w p' w' 0 l) : GX s0 3 o p w p' w' 1 l := fun Q h => h.2.2.2.2.2.2.2.2.2.2.2.2.2.1 o p w p' w' l (h1 Q h)
theorem GX.an {s0 : iS} (o p w p1 w1 p2 w2 a : Nat) (l1 l2 : List itm) (h1 : GX s0 3 o p w p1 w1 (a + 1) l1) (h2 : GX s0 1 o (p1 + 1) w1 p2 w2 0 l2) : GX s0 3 o p w p2 w2 (a + 2) (l1 ++ l2) := fun Q h => h.2.2.2.2.2.2.2.2.2.2.2.2.2.2 o p w p1 w1 p2 w2 a l1 l2 (h1 Q h) (h2 Q h)
/-- both have gone on together -/
def GD (R : List itm → iS → Prop) (s0 t0 : iS) (N : Nat) (q : Int) (s' t2 t : iS) (p I C K : Nat) (l : List itm) (p' o' w' C' : Nat) (l' : List itm) : Prop := LV s0 t0 N q s' t2 p' o' w' (I + l'.length) C' ∧ p ≤ p' ∧ l'.length ≤ p' - p ∧ C ≤ C' ∧ C' - C ≤ p' - p ∧ R (l ++ l') s' ∧ IMs t2 I q C C' l' ∧ PG t t2 I C K
/-- the reference stops at t1; so does the class -/
def DEAD (b : Int) (s0 t0 : iS) (N : Nat) (P : Nat → Nat) (t t1 : iS) (cl : Option (Int × iS)) : Prop := ∃ f u, ft f u N ∧ RD t0 N P t1 f u 3100 ∧ PG t t1 0 0 0 ∧ (b = 0 → ∃ r s', cl = some (r, s') ∧ CD s0 N s' f u)
def TERM (R : List itm → iS → Prop) (b : Int) (s0 t0 : iS) (N : Nat) (P : Nat → Nat) (q : Int) (m : Nat) : Prop := ∀ s t p o w I C k l, LV s0 t0 N q s t p o w I C → R l s → t 121 61 = 1 → t 121 51 = ((k + 1 : Nat) : Int) → k ≤ o → 6 * (25 - o) + 6 ≤ m → (∃ s' t1 t2 p' w' C' l', trlE m 2 0 0 0 s = some (0, s') ∧ eL t = eL t1 ∧ t1 121 61 = 0 ∧ t1 121 11 = 0 ∧ 0 < t1 121 51 ∧ t1 121 51 < 100 ∧ pL t1 = pL t2 ∧ t2 121 51 = ((k + 1 : Nat) : Int) ∧ t2 121 61 = 0 ∧ (p < p' ∧ GX s0 0 o p w p' w' 0 l') ∧ GD R s0 t0 N q s' t2 t p I C (k + 1) l p' o w' C' l') ∨ (∃ t1, eL t = some t1 ∧ DEAD b s0 t0 N P t t1 (trlE m 2 0 0 0 s))
def EXPR (R : List itm → iS → Prop) (b : Int) (s0 t0 : iS) (N : Nat) (P : Nat → Nat) (q : Int) (m : Nat) : Prop := ∀ s t p o w I C k l, LV s0 t0 N q s t p o w I C → R l s → t 121 61 = 1 → t 121 51 = ((k + 1 : Nat) : Int) → k ≤ o → (0 ≤ t 157 k ∧ t 157 k < 4) → (t 157 k = 0 → t 121 62 = 0) → t 158 k = 0 → 6 * (25 - o) + 7 ≤ m → (∃ s' t1 t2 p' w' C' l', trlE m 1 0 0 0 s = some (0, s') ∧ eL t = eL t1 ∧ t1 121 61 = 0 ∧ t1 121 11 = 0 ∧ 0 < t1 121 51 ∧ t1 121 51 < 100 ∧ m_behindTerm t1 = m_behindTerm_121 (k : Int) t2 ∧ t2 121 51 = ((k + 1 : Nat) : Int) ∧ t2 121 61 = 0 ∧ (p < p' ∧ GX s0 1 o p w p' w' 0 l') ∧ s0 9 p' ∉ sO ∧ t2 157 k = t 157 k ∧ t2 159 k = t 159 k ∧ t2 158 k = 0 ∧ GD R s0 t0 N q s' t2 t p I C k l p' o w' C' l') ∨ (∃ t1, eL t = some t1 ∧ DEAD b s0 t0 N P t t1 (trlE m 1 0 0 0 s))
section EXa
variable {F : Nat → Int} {n N : Nat} {P : Nat → Nat} {s0 t0 : iS} {R : List itm → iS → Prop} {b q : Int} {fv : Nat → Int}
theorem GD_cat {s1 t1 s2 t2 t : iS} {p I C K K2 p1 o1 w1 C1 p2 o2 w2 C2 : Nat} {l l1 l2 : List itm} (h1 : GD R s0 t0 N q s1 t1 t p I C K l p1 o1 w1 C1 l1) (h2 : GD R s0 t0 N q s2 t2 t1 p1 (I + l1.length) C1 K2 (l ++ l1) p2 o2 w2 C2 l2) (hK : K ≤ K2) : GD R s0 t0 N q s2 t2 t p I C K l p2 o2 w2 C2 (l1 ++ l2) := by
  obtain ⟨a1, a2, a3, a4, a5, a6, a7, a8⟩ := h1
  obtain ⟨b1, b2, b3, b4, b5, b6, b7, b8⟩ := h2
  refine ⟨?_, by omega, by rw [List.length_append]; omega, by omega, by omega, ?_, ?_, ?_⟩
  · rw [List.length_append, ← Nat.add_assoc]; exact b1
  · rw [← List.append_assoc]; exact b6
  · exact IMs_app (IMs_pg a7 b8 (Nat.le_refl _) (Nat.le_refl _)) b7 a4 b4
  · exact PG_trans a8 b8 (by omega) a4 hK
theorem GD_nil {s' t2 t : iS} {p I C K p' o' w' : Nat} {l : List itm} (h : LV s0 t0 N q s' t2 p' o' w' I C) (hp : p ≤ p') (hR : R l s') (hP : PG t t2 I C K) : GD R s0 t0 N q s' t2 t p I C K l p' o' w' C [] := ⟨h, hp, Nat.zero_le _, Nat.le_refl _, by omega, by rw [List.append_nil]; exact hR, IMs_nil, hP⟩
/-- one item -/
theorem GD_one {s' t2 t : iS} {p I C K p' o' w' : Nat} {l : List itm} {r : itm} (h : LV s0 t0 N q s' t2 p' o' w' (I + 1) C) (hp : p < p') (hR : R (l ++ [r]) s') (hI : IMs t2 I q C C [r]) (hP : PG t t2 I C K) : GD R s0 t0 N q s' t2 t p I C K l p' o' w' C [r] := ⟨h, by omega, by show 1 ≤ _; omega, Nat.le_refl _, by omega, hR, hI, hP⟩
theorem LV_MD {s s1 t : iS} {p o w I C : Nat} (h : LV s0 t0 N q s t p o w I C) (hM : MD s s1) : LV s0 t0 N q s1 t p o w I C := by
  obtain ⟨h1, h2, h3, h4, h5, h6, h7, h8, h9, h10, h11, h12, h13, h14, h15, h16, h17⟩ := h
  exact ⟨MD_SC hM h1, h2, by rw [MD_at hM (by omega) (by omega)]; exact h3, h4, h5, h6, by rw [MD_at hM (by omega) (by omega)]; exact h7, h8, h9, by rw [MD_at hM (by omega) (by omega)]; exact h10, h11, h12, h13, h14, h15, h16, h17⟩
/-- both at the next token -/
theorem LV_go {s t : iS} {p o w I C : Nat} (h : LV s0 t0 N q s t p o w I C) (hp : p + 1 < N) : LV s0 t0 N q (up s 2 12 ((p + 1 : Nat) : Int)) (up t 121 10 ((p + 1 : Nat) : Int)) (p + 1) o w I C := by
  obtain ⟨h1, h2, h3, h4, h5, h6, h7, h8, h9, h10, h11, h12, h13, h14, h15, h16, h17⟩ := h
  exact ⟨SC_up h1 (by omega), SR_up h2 (by omega), up_same _ _ _ _, up_same _ _ _ _, hp, by rw [up_ne (by omega)]; exact h6, by rw [up_ne (by omega)]; exact h7, by rw [up_ne (by omega)]; exact h8, h9, by rw [up_ne (by omega)]; exact h10, by rw [up_ne (by omega)]; exact h11, h12, by rw [up_ne (by omega)]; exact h13, by rw [up_ne (by omega)]; exact h14, by omega, by omega, by rw [up_ne (by omega)]; exact h17⟩
/-- a change of the reference that the relation doesn't see -/
theorem LV_r {s t t' : iS} {p o w I C : Nat} (h : LV s0 t0 N q s t p o w I C) (hr : SR t0 t') (hs : ∀ k, k = 10 ∨ k = 11 ∨ k = 48 ∨ k = 49 ∨ k = 33 ∨ k = 39 ∨ k = 17 → t' 121 k = t 121 k) : LV s0 t0 N q s t' p o w I C := by
  obtain ⟨h1, h2, h3, h4, h5, h6, h7, h8, h9, h10, h11, h12, h13, h14, h15, h16, h17⟩ := h
  exact ⟨h1, hr, h3, by rw [hs 10 (by omega)]; exact h4, h5, by rw [hs 11 (by omega)]; exact h6, h7, by rw [hs 48 (by omega)]; exact h8, h9, h10, by rw [hs 49 (by omega)]; exact h11, h12, by rw [hs 33 (by omega)]; exact h13, by rw [hs 39 (by omega)]; exact h14, h15, h16, by rw [hs 17 (by omega)]; exact h17⟩
theorem LV_adt {s t : iS} {p o w I C : Nat} {a b' c d : Int} (h : LV s0 t0 N q s t p o w I C) (hI : I + 1 ≤ 3 * p) : LV s0 t0 N q s (adt t I a b' c d) p o w (I + 1) C := by
  obtain ⟨h1, h2, h3, h4, h5, h6, h7, h8, h9, h10, h11, h12, h13, h14, h15, h16, h17⟩ := h
  exact ⟨h1, PG_SR (PG_adt (I := I) (C := 0) (K := 0) (Nat.le_refl _)) h2, h3, by rw [adt_ne (by omega) (by omega)]; exact h4, h5, by rw [adt_ne (by omega) (by omega)]; exact h6, h7, by rw [adt_ne (by omega) (by omega)]; exact h8, h9, h10, by rw [adt_ne (by omega) (by omega)]; exact h11, h12, adt_33, by rw [adt_ne (by omega) (by omega)]; exact h14, hI, h16, by rw [adt_ne (by omega) (by omega)]; exact h17⟩
/-- the opening: one more -/
theorem LV_open {s t : iS} {p o w I C : Nat} (h : LV s0 t0 N q s t p o w I C) (hp : p + 1 < N) (ho : o < 25) : LV s0 t0 N q (up (up s 22 5 ((o + 1 : Nat) : Int)) 2 12 ((p + 1 : Nat) : Int)) (up (up t 121 48 ((o + 1 : Nat) : Int)) 121 10 ((p + 1 : Nat) : Int)) (p + 1) (o + 1) w I C := by
  obtain ⟨h1, h2, h3, h4, h5, h6, h7, h8, h9, h10, h11, h12, h13, h14, h15, h16, h17⟩ := h
  exact ⟨SC_up (SC_up h1 (by omega)) (by omega), SR_up (SR_up h2 (by omega)) (by omega), up_same _ _ _ _, up_same _ _ _ _, hp, by rw [up_ne (by omega), up_ne (by omega)]; exact h6, by rw [up_ne (by omega), up_same], by rw [up_ne (by omega), up_same], by omega, by rw [up_ne (by omega), up_ne (by omega)]; exact h10, by rw [up_ne (by omega), up_ne (by omega)]; exact h11, h12, by rw [up_ne (by omega), up_ne (by omega)]; exact h13, by rw [up_ne (by omega), up_ne (by omega)]; exact h14, by omega, by omega, by rw [up_ne (by omega), up_ne (by omega)]; exact h17⟩
/-- the closing: one less, and the next token -/
theorem LV_close {s t : iS} {p o w I C : Nat} (h : LV s0 t0 N q s t p (o + 1) w I C) (hp : p + 1 < N) : LV s0 t0 N q (up (up s 2 12 ((p + 1 : Nat) : Int)) 22 5 (o : Int)) (up (up t 121 10 ((p + 1 : Nat) : Int)) 121 48 (o : Int)) (p + 1) o w I C := by
  obtain ⟨h1, h2, h3, h4, h5, h6, h7, h8, h9, h10, h11, h12, h13, h14, h15, h16, h17⟩ := h
  exact ⟨SC_up (SC_up h1 (by omega)) (by omega), SR_up (SR_up h2 (by omega)) (by omega), by rw [up_ne (by omega), up_same], by rw [up_ne (by omega), up_same], hp, by rw [up_ne (by omega), up_ne (by omega)]; exact h6, up_same _ _ _ _, up_same _ _ _ _, by omega, by rw [up_ne (by omega), up_ne (by omega)]; exact h10, by rw [up_ne (by omega), up_ne (by omega)]; exact h11, h12, by rw [up_ne (by omega), up_ne (by omega)]; exact h13, by rw [up_ne (by omega), up_ne (by omega)]; exact h14, by omega, by omega, by rw [up_ne (by omega), up_ne (by omega)]; exact h17⟩
/-- both stop at the token -/
theorem dead_at {s t ta : iS} {p o w I C : Nat} {l : List itm} {f : Int} (hR : RHE R b fv s0 N) (h : LV s0 t0 N q s t p o w I C) (hN : N ≤ 1001) (hl : R l s) (hf : f = 1 ∨ f = 2) (hP : PG ta t 0 0 0) {cl : Option (Int × iS)} (hc : b = 0 → s 2 13 = 0 → s 14 7 = 0 → s 22 4 = 0 → SBo s → CD s0 N (stp s f p N) f p → ∃ r s', cl = some (r, s') ∧ CD s0 N s' f p) : DEAD b s0 t0 N P ta (flt t f P p) cl := by
  obtain ⟨h1, h2, h3, h4, h5, h6, h7, h8, h9, h10, h11, h12, h13, h14, h15, h16, h17⟩ := h
  refine ⟨f, p, ⟨hf, h5⟩, flt_RD h2 h4 h5 h13 (by omega) (by omega), PG_trans hP flt_PG (Nat.le_refl _) (Nat.le_refl _) (Nat.le_refl _), fun hb => ?_⟩
  obtain ⟨g1, g2, g3⟩ := hR.2.1 l s hl
  obtain ⟨g4, g5⟩ := g3 hb
  exact hc hb g4 g5 (by rw [g1, hb]) g2 (stp_CD h1 (by rw [g1, hb]) g5 g2)
theorem ao0 {s : iS} (h : s 14 7 = 0) {c : Int} (hc : rg c) : trl_addOperator c s = some (0, s) := by
  unfold trl_addOperator
  simp only [pad0 h, pai0 h, bq]
  rw [gd_pos hc]
  repeat' split
  all_goals rfl
theorem sO_rg {c : Int} (h : c ∈ sO) : 38 ≤ c ∧ c ≤ 124 := by
  unfold sO at h
  simp only [List.mem_cons, List.not_mem_nil, or_false] at h
  omega
theorem e6_nx {G : Nat → Int → Int → Int → iS → Option (Int × iS)} {v v' : Int} {s s' : iS} (h : trl_readExpression_6b G v s = some (.inl (v', s'))) : trl_readExpression_6 G v s = trl_readExpression_6 G v' s' := by
  unfold trl_readExpression_6
  rw [lp_next (f := fun l : Int × iS => trl_readExpression_6b G (l.1) (l.2)) (l := (v, s)) h]
theorem e6_en {G : Nat → Int → Int → Int → iS → Option (Int × iS)} {v : Int} {s s' : iS} (h : trl_readExpression_6b G v s = some (.inr s')) : trl_readExpression_6 G v s = some (0, s') := by
  unfold trl_readExpression_6
  rw [lp_end (f := fun l : Int × iS => trl_readExpression_6b G (l.1) (l.2)) (l := (v, s)) h, bn]
theorem cz_6 {s : iS} {f : Int} {u : Nat} (h : TKR 0 F n N P s0 t0) (hd : CD s0 N s f u) {G : Nat → Int → Int → Int → iS → Option (Int × iS)} {v : Int} (hv : 0 ≤ v ∧ v < 100000) : trl_readExpression_6 G v s = some (0, s) := by
  refine e6_en ?_
  unfold trl_readExpression_6b
  rw [gr (by omega)]
  by_cases c : 1000 ≤ v
  · rw [if_pos c]
  · rw [if_neg c, cKD h hd.1 hd.2.1, bq, cop (by omega), bq, if_neg (by decide), gr (by omega), if_pos rfl]
/-- behind the signs and the operator of a term -/
theorem bt_58 {t1 t2 : iS} {k I p : Nat} (hp1 : pL t1 = pL t2) (hl : t2 121 51 = ((k + 1 : Nat) : Int)) (hk : k < 64) (h157 : 0 ≤ t2 157 k ∧ t2 157 k < 4) (h62 : t2 157 k = 0 → t2 121 62 = 0) (h158 : 0 ≤ t2 158 k ∧ t2 158 k < 1000) (hI : t2 121 33 = (I : Int)) (hI2 : I < 5000) (h10 : t2 121 10 = (p : Int)) : m_behindTerm t1 = if t2 158 k = 0 then m_behindTerm_121 (k : Int) t2 else m_behindTerm_121 (k : Int) (up (adt t2 I 6 (t2 158 k) 0 (p : Int)) 158 k 0) := by
  have h92 : ∀ u : iS, u 157 k = t2 157 k → u 121 62 = t2 121 62 → m_behindTerm_92 (k : Int) u = m_behindTerm_121 (k : Int) (up u 158 k 0) := by
    intro u u1 u2
    unfold m_behindTerm_92
    rw [gd_pos (by omega), lt_eq, Int.toNat_natCast, up_ne (by omega), up_ne (by omega), u1, u2, gr (by omega)]
    by_cases c : t2 157 k = 0
    · rw [if_pos c, h62 c, gr (by omega), if_pos rfl]
    · rw [if_neg c]
  rw [btq, hp1, pL_end hl hk h157, bn]
  unfold m_behindTerm_58
  rw [hl, show ((k + 1 : Nat) : Int) - 1 = (k : Int) by omega, gd_pos (by omega), Int.toNat_natCast, gr (by omega)]
  by_cases c : t2 158 k = 0
  · rw [if_pos c, if_pos c, h92 t2 rfl rfl]
    have : up t2 158 k 0 = t2 := by
      have := up_id (s := t2) (c := 158) (k := k)
      rw [c] at this
      exact this
    rw [this]
  · rw [if_neg c, if_neg c, h10, mad_ok hI hI2, bq, h92 _ (adt_ne (by omega) (by omega)) (adt_ne (by omega) (by omega))]
end EXa
