/-! statements: frames, an expression at the top -/
/-- which items statements give, and where their jumps go: 0 a statement, 1 statements; I is the first item's number, lb the first free label -/
def GYr (s0 t : iS) (Q : Nat → Nat → Nat → Nat → Nat → Nat → Nat → Nat → Nat → List itm → Prop) : Prop :=
  (∀ (o I p w lb p' w' : Nat) (l : List itm) (j : Int), s0 9 p = 271 → s0 9 (p + 1) = 3 → GX s0 1 o (p + 3) w p' w' 0 l → Q 0 o I p w lb (p' + 1) w' lb ([(11, 0, 0, (p : Int))] ++ (l ++ [(13, 0, 0, ((p + 1 : Nat) : Int)), (12, 0, 0, j)]))) ∧
  (∀ (o I p w lb p1 w1 p2 w2 : Nat) (l1 l2 : List itm) (j j1 j2 : Int), s0 9 p = 271 → s0 9 (p + 1) = 3 → GX s0 1 (o + 1) (p + 3) w p1 w1 0 l1 → GX s0 1 o (p1 + 2) w1 p2 w2 0 l2 → Q 0 o I p w lb (p2 + 1) w2 lb ([(11, 0, 0, (p : Int))] ++ ([(4, 0, 0, ((p + 1 : Nat) : Int))] ++ (l1 ++ ([(6, 43, 0, j)] ++ (l2 ++ [(14, 0, 0, j1), (12, 0, 0, j2)])))))) ∧
  (∀ (o I p w lb p' w' : Nat) (l : List itm) (j1 j2 : Int), s0 9 p ≠ 271 → GX s0 2 o (p + 1) w p' w' 0 l → Q 0 o I p w lb (p' + 1) w' lb ([(11, 0, 0, (p : Int))] ++ (l ++ ([(19, 0, 0, j1)] ++ [(12, 0, 0, j2)])))) ∧
  (∀ (o I p w lb : Nat) (j1 j2 : Int), s0 9 p ≠ 271 → Q 0 o I p w lb (p + 2) w lb ([(11, 0, 0, (p : Int))] ++ ([(0, 0, 0, j1)] ++ [(18, 0, 0, j2)]))) ∧
  (∀ (o I p w lb p' w' : Nat) (l : List itm) (j : Int), s0 9 p ≠ 271 → GX s0 1 o (p + 1) w p' w' 0 l → Q 0 o I p w lb (p' + 1) w' lb ([(11, 0, 0, (p : Int))] ++ (l ++ [(18, 0, 0, j)]))) ∧
  (∀ (o I p w lb p1 w1 p2 w2 lb2 : Nat) (l1 l2 : List itm) (j0 j1 j2 : Int), s0 9 p ≠ 271 ∧ o < 25 → GX s0 1 (o + 1) (p + 2) w p1 w1 0 l1 → Q 1 (o + 1) (I + l1.length + 2) (p1 + 2) w1 (lb + 2) p2 w2 lb2 l2 → t 145 (I + l1.length + 1) = ((I + l1.length + 2 + l2.length : Nat) : Int) → Q 0 o I p w lb (p2 + 1) w2 lb2 ([(11, 0, 0, (p : Int))] ++ l1 ++ [(15, 0, (lb : Int), j0)] ++ l2 ++ [(20, (lb : Int), 0, j1)] ++ [(12, 0, 0, j2)])) ∧
  (∀ (o I p w lb p1 w1 p2 w2 lb2 p3 w3 lb3 : Nat) (l1 l2 l3 : List itm) (j0 j1 j2 j3 j4 : Int), s0 9 p ≠ 271 ∧ o < 25 → GX s0 1 (o + 1) (p + 2) w p1 w1 0 l1 → Q 1 (o + 1) (I + l1.length + 2) (p1 + 2) w1 (lb + 2) p2 w2 lb2 l2 → Q 1 (o + 1) (I + l1.length + l2.length + 4) (p2 + 3) w2 lb2 p3 w3 lb3 l3 → t 145 (I + l1.length + 1) = ((I + l1.length + l2.length + 3 : Nat) : Int) → t 145 (I + l1.length + l2.length + 2) = ((I + l1.length + l2.length + 4 + l3.length : Nat) : Int) → Q 0 o I p w lb (p3 + 1) w3 lb3 ([(11, 0, 0, (p : Int))] ++ l1 ++ [(15, 0, (lb : Int), j0)] ++ l2 ++ [(16, 0, ((lb + 1 : Nat) : Int), j1)] ++ [(20, (lb : Int), 0, j2)] ++ l3 ++ [(20, ((lb + 1 : Nat) : Int), 0, j3)] ++ [(12, 0, 0, j4)])) ∧
  (∀ (o I p w lb p1 w1 p2 w2 lb2 : Nat) (l1 l2 : List itm) (j0 j1 x j2 j3 j4 : Int), s0 9 p ≠ 271 ∧ o < 25 → GX s0 1 (o + 1) (p + 2) w p1 w1 0 l1 → Q 1 (o + 1) (I + l1.length + 4) (p1 + 2) w1 (lb + 2) p2 w2 lb2 l2 → t 145 (I + l1.length + 3) = ((I + l1.length + l2.length + 5 : Nat) : Int) → t 145 (I + l1.length + l2.length + 4) = ((I + 1 : Nat) : Int) → Q 0 o I p w lb (p2 + 1) w2 lb2 ([(11, 0, 0, (p : Int))] ++ [(20, (lb : Int), 0, j0)] ++ [(17, 0, 0, (p : Int))] ++ l1 ++ [(15, 0, ((lb + 1 : Nat) : Int), j1)] ++ l2 ++ [(16, x, (lb : Int), j2)] ++ [(20, ((lb + 1 : Nat) : Int), 0, j3)] ++ [(12, 0, 0, j4)])) ∧
  (∀ (o I p w lb : Nat), Q 1 o I p w lb p w lb []) ∧
  (∀ (o I p w lb p1 w1 lb1 p2 w2 lb2 : Nat) (l1 l2 : List itm), Q 0 o I p w lb p1 w1 lb1 l1 → Q 1 o (I + l1.length) p1 w1 lb1 p2 w2 lb2 l2 → Q 1 o I p w lb p2 w2 lb2 (l1 ++ l2))
def GY (s0 t : iS) (g o I p w lb p' w' lb' : Nat) (l : List itm) : Prop := ∀ Q : Nat → Nat → Nat → Nat → Nat → Nat → Nat → Nat → Nat → List itm → Prop, GYr s0 t Q → Q g o I p w lb p' w' lb' l
theorem GY.let1 {s0 t : iS} (o I p w lb p' w' : Nat) (l : List itm) (j : Int) (h1 : s0 9 p = 271) (h2 : s0 9 (p + 1) = 3) (h3 : GX s0 1 o (p + 3) w p' w' 0 l) : GY s0 t 0 o I p w lb (p' + 1) w' lb ([(11, 0, 0, (p : Int))] ++ (l ++ [(13, 0, 0, ((p + 1 : Nat) : Int)), (12, 0, 0, j)])) := fun Q h => h.1 o I p w lb p' w' l j h1 h2 h3
theorem GY.let2 {s0 t : iS} (o I p w lb p1 w1 p2 w2 : Nat) (l1 l2 : List itm) (j j1 j2 : Int) (h1 : s0 9 p = 271) (h2 : s0 9 (p + 1) = 3) (h3 : GX s0 1 (o + 1) (p + 3) w p1 w1 0 l1) (h4 : GX s0 1 o (p1 + 2) w1 p2 w2 0 l2) : GY s0 t 0 o I p w lb (p2 + 1) w2 lb ([(11, 0, 0, (p : Int))] ++ ([(4, 0, 0, ((p + 1 : Nat) : Int))] ++ (l1 ++ ([(6, 43, 0, j)] ++ (l2 ++ [(14, 0, 0, j1), (12, 0, 0, j2)]))))) := fun Q h => h.2.1 o I p w lb p1 w1 p2 w2 l1 l2 j j1 j2 h1 h2 h3 h4
theorem GY.doc {s0 t : iS} (o I p w lb p' w' : Nat) (l : List itm) (j1 j2 : Int) (h1 : s0 9 p ≠ 271) (h2 : GX s0 2 o (p + 1) w p' w' 0 l) : GY s0 t 0 o I p w lb (p' + 1) w' lb ([(11, 0, 0, (p : Int))] ++ (l ++ ([(19, 0, 0, j1)] ++ [(12, 0, 0, j2)]))) := fun Q h => h.2.2.1 o I p w lb p' w' l j1 j2 h1 h2
theorem GY.ret0 {s0 t : iS} (o I p w lb : Nat) (j1 j2 : Int) (h1 : s0 9 p ≠ 271) : GY s0 t 0 o I p w lb (p + 2) w lb ([(11, 0, 0, (p : Int))] ++ ([(0, 0, 0, j1)] ++ [(18, 0, 0, j2)])) := fun Q h => h.2.2.2.1 o I p w lb j1 j2 h1
theorem GY.ret1 {s0 t : iS} (o I p w lb p' w' : Nat) (l : List itm) (j : Int) (h1 : s0 9 p ≠ 271) (h2 : GX s0 1 o (p + 1) w p' w' 0 l) : GY s0 t 0 o I p w lb (p' + 1) w' lb ([(11, 0, 0, (p : Int))] ++ (l ++ [(18, 0, 0, j)])) := fun Q h => h.2.2.2.2.1 o I p w lb p' w' l j h1 h2
theorem GY.if1 {s0 t : iS} (o I p w lb p1 w1 p2 w2 lb2 : Nat) (l1 l2 : List itm) (j0 j1 j2 : Int) (h1 : s0 9 p ≠ 271 ∧ o < 25) (h2 : GX s0 1 (o + 1) (p + 2) w p1 w1 0 l1) (h3 : GY s0 t 1 (o + 1) (I + l1.length + 2) (p1 + 2) w1 (lb + 2) p2 w2 lb2 l2) (h4 : t 145 (I + l1.length + 1) = ((I + l1.length + 2 + l2.length : Nat) : Int)) : GY s0 t 0 o I p w lb (p2 + 1) w2 lb2 ([(11, 0, 0, (p : Int))] ++ l1 ++ [(15, 0, (lb : Int), j0)] ++ l2 ++ [(20, (lb : Int), 0, j1)] ++ [(12, 0, 0, j2)]) := fun Q h => h.2.2.2.2.2.1 o I p w lb p1 w1 p2 w2 lb2 l1 l2 j0 j1 j2 h1 h2 (h3 Q h) h4
theorem GY.if2 {s0 t : iS} (o I p w lb p1 w1 p2 w2 lb2 p3 w3 lb3 : Nat) (l1 l2 l3 : List itm) (j0 j1 j2 j3 j4 : Int) (h1 : s0 9 p ≠ 271 ∧ o < 25) (h2 : GX s0 1 (o + 1) (p + 2) w p1 w1 0 l1) (h3 : GY s0 t 1 (o + 1) (I + l1.length + 2) (p1 + 2) w1 (lb + 2) p2 w2 lb2 l2) (h4 : GY s0 t 1 (o + 1) (I + l1.length + l2.length + 4) (p2 + 3) w2 lb2 p3 w3 lb3 l3) (h5 : t 145 (I + l1.length + 1) = ((I + l1.length + l2.length + 3 : Nat) : Int)) (h6 : t 145 (I + l1.length + l2.length + 2) = ((I + l1.length + l2.length + 4 + l3.length : Nat) : Int)) : GY s0 t 0 o I p w lb (p3 + 1) w3 lb3 ([(11, 0, 0, (p : Int))] ++ l1 ++ [(15, 0, (lb : Int), j0)] ++ l2 ++ [(16, 0, ((lb + 1 : Nat) : Int), j1)] ++ [(20, (lb : Int), 0, j2)] ++ l3 ++ [(20, ((lb + 1 : Nat) : Int), 0, j3)] ++ [(12, 0, 0, j4)]) := fun Q h => h.2.2.2.2.2.2.1 o I p w lb p1 w1 p2 w2 lb2 p3 w3 lb3 l1 l2 l3 j0 j1 j2 j3 j4 h1 h2 (h3 Q h) (h4 Q h) h5 h6
theorem GY.whl {s0 t : iS} (o I p w lb p1 w1 p2 w2 lb2 : Nat) (l1 l2 : List itm) (j0 j1 x j2 j3 j4 : Int) (h1 : s0 9 p ≠ 271 ∧ o < 25) (h2 : GX s0 1 (o + 1) (p + 2) w p1 w1 0 l1) (h3 : GY s0 t 1 (o + 1) (I + l1.length + 4) (p1 + 2) w1 (lb + 2) p2 w2 lb2 l2) (h4 : t 145 (I + l1.length + 3) = ((I + l1.length + l2.length + 5 : Nat) : Int)) (h5 : t 145 (I + l1.length + l2.length + 4) = ((I + 1 : Nat) : Int)) : GY s0 t 0 o I p w lb (p2 + 1) w2 lb2 ([(11, 0, 0, (p : Int))] ++ [(20, (lb : Int), 0, j0)] ++ [(17, 0, 0, (p : Int))] ++ l1 ++ [(15, 0, ((lb + 1 : Nat) : Int), j1)] ++ l2 ++ [(16, x, (lb : Int), j2)] ++ [(20, ((lb + 1 : Nat) : Int), 0, j3)] ++ [(12, 0, 0, j4)]) := fun Q h => h.2.2.2.2.2.2.2.1 o I p w lb p1 w1 p2 w2 lb2 l1 l2 j0 j1 x j2 j3 j4 h1 h2 (h3 Q h) h4 h5
theorem GY.nil {s0 t : iS} (o I p w lb : Nat) : GY s0 t 1 o I p w lb p w lb [] := fun Q h => h.2.2.2.2.2.2.2.2.1 o I p w lb 
theorem GY.cons {s0 t : iS} (o I p w lb p1 w1 lb1 p2 w2 lb2 : Nat) (l1 l2 : List itm) (h1 : GY s0 t 0 o I p w lb p1 w1 lb1 l1) (h2 : GY s0 t 1 o (I + l1.length) p1 w1 lb1 p2 w2 lb2 l2) : GY s0 t 1 o I p w lb p2 w2 lb2 (l1 ++ l2) := fun Q h => h.2.2.2.2.2.2.2.2.2 o I p w lb p1 w1 lb1 p2 w2 lb2 l1 l2 (h1 Q h) (h2 Q h)
theorem GY_t {s0 t t' : iS} {g o I p w lb p' w' lb' : Nat} {l : List itm} (h : GY s0 t g o I p w lb p' w' lb' l) (hf : ∀ k, I ≤ k → k < I + l.length → t' 145 k = t 145 k) : GY s0 t' g o I p w lb p' w' lb' l := by
  refine h (fun g o I p w lb p' w' lb' l => (∀ k, I ≤ k → k < I + l.length → t' 145 k = t 145 k) → GY s0 t' g o I p w lb p' w' lb' l) ⟨?_, ?_, ?_, ?_, ?_, ?_, ?_, ?_, ?_, ?_⟩ hf
  · intro o I p w lb p' w' l j h1 h2 h3 _
    exact .let1 _ _ _ _ _ _ _ _ _ h1 h2 h3
  · intro o I p w lb p1 w1 p2 w2 l1 l2 j j1 j2 h1 h2 h3 h4 _
    exact .let2 _ _ _ _ _ _ _ _ _ _ _ _ _ _ h1 h2 h3 h4
  · intro o I p w lb p' w' l j1 j2 h1 h2 _
    exact .doc _ _ _ _ _ _ _ _ _ _ h1 h2
  · intro o I p w lb j1 j2 h1 _
    exact .ret0 _ _ _ _ _ _ _ h1
  · intro o I p w lb p' w' l j h1 h2 _
    exact .ret1 _ _ _ _ _ _ _ _ _ h1 h2
  · intro o I p w lb p1 w1 p2 w2 lb2 l1 l2 j0 j1 j2 h1 h2 ih h4 hf
    simp only [List.length_append, List.length_cons, List.length_nil] at hf
    exact .if1 _ _ _ _ _ _ _ _ _ _ _ _ _ _ _ h1 h2 (ih (fun k z1 z2 => hf k (by omega) (by omega))) (by rw [hf _ (by omega) (by omega)]; exact h4)
  · intro o I p w lb p1 w1 p2 w2 lb2 p3 w3 lb3 l1 l2 l3 j0 j1 j2 j3 j4 h1 h2 ih1 ih2 h5 h6 hf
    simp only [List.length_append, List.length_cons, List.length_nil] at hf
    exact .if2 _ _ _ _ _ _ _ _ _ _ _ _ _ _ _ _ _ _ _ _ _ h1 h2 (ih1 (fun k z1 z2 => hf k (by omega) (by omega))) (ih2 (fun k z1 z2 => hf k (by omega) (by omega))) (by rw [hf _ (by omega) (by omega)]; exact h5) (by rw [hf _ (by omega) (by omega)]; exact h6)
  · intro o I p w lb p1 w1 p2 w2 lb2 l1 l2 j0 j1 x j2 j3 j4 h1 h2 ih h4 h5 hf
    simp only [List.length_append, List.length_cons, List.length_nil] at hf
    exact .whl _ _ _ _ _ _ _ _ _ _ _ _ _ _ _ _ _ _ h1 h2 (ih (fun k z1 z2 => hf k (by omega) (by omega))) (by rw [hf _ (by omega) (by omega)]; exact h4) (by rw [hf _ (by omega) (by omega)]; exact h5)
  · intro o I p w lb _
    exact .nil _ _ _ _ _
  · intro o I p w lb p1 w1 lb1 p2 w2 lb2 l1 l2 ih1 ih2 hf
    rw [List.length_append] at hf
    exact .cons _ _ _ _ _ _ _ _ _ _ _ _ _ (ih1 (fun k z1 z2 => hf k (by omega) (by omega))) (ih2 (fun k z1 z2 => hf k (by omega) (by omega)))
/-- how far the reference may have changed: below I items, C calls, B blocks nothing -/
def PS (t t2 : iS) (I C B : Nat) : Prop := (∀ c k, (c ≠ 121 ∧ (c < 144 ∨ 163 < c ∨ (152 ≤ c ∧ c ≤ 155)) ∨ c = 121 ∧ k ≠ 10 ∧ k ≠ 11 ∧ k ≠ 12 ∧ k ≠ 33 ∧ k ≠ 39 ∧ k ≠ 48 ∧ k ≠ 49 ∧ k ≠ 50 ∧ k ≠ 51 ∧ k ≠ 55 ∧ k ≠ 61 ∧ k ≠ 62) → t2 c k = t c k) ∧ (∀ c k, 144 ≤ c → c ≤ 148 → k < I → t2 c k = t c k) ∧ (∀ c k, 149 ≤ c → c ≤ 156 → k < C → t2 c k = t c k) ∧ (∀ c k, 160 ≤ c → c ≤ 163 → k < B → t2 c k = t c k)
section PSs
variable {t t2 t3 : iS} {I C B I2 C2 B2 : Nat}
theorem PS_refl : PS t t I C B := ⟨fun _ _ _ => rfl, fun _ _ _ _ _ => rfl, fun _ _ _ _ _ => rfl, fun _ _ _ _ _ => rfl⟩
theorem PS_trans (h : PS t t2 I C B) (h' : PS t2 t3 I2 C2 B2) (hI : I ≤ I2) (hC : C ≤ C2) (hB : B ≤ B2) : PS t t3 I C B :=
  ⟨fun c k q => (h'.1 c k q).trans (h.1 c k q), fun c k q1 q2 q3 => (h'.2.1 c k q1 q2 (by omega)).trans (h.2.1 c k q1 q2 q3), fun c k q1 q2 q3 => (h'.2.2.1 c k q1 q2 (by omega)).trans (h.2.2.1 c k q1 q2 q3), fun c k q1 q2 q3 => (h'.2.2.2 c k q1 q2 (by omega)).trans (h.2.2.2 c k q1 q2 q3)⟩
theorem PS_0 (h : PS t t2 I C B) : PS t t2 0 0 0 := ⟨h.1, fun c k q1 q2 q3 => by omega, fun c k q1 q2 q3 => by omega, fun c k q1 q2 q3 => by omega⟩
theorem PS0_trans (h : PS t t2 0 0 0) (h' : PS t2 t3 0 0 0) : PS t t3 0 0 0 := PS_trans h h' (Nat.le_refl _) (Nat.le_refl _) (Nat.le_refl _)
theorem PS_PG {K : Nat} (h : PG t t2 I C K) : PS t t2 I C B := ⟨fun c k q => h.1 c k (by omega), h.2.1, h.2.2.1, fun c k q1 q2 q3 => h.1 c k (by omega)⟩
theorem PS_up {k : Nat} {x : Int} (hk : k = 10 ∨ k = 11 ∨ k = 12 ∨ k = 33 ∨ k = 39 ∨ k = 48 ∨ k = 49 ∨ k = 50 ∨ k = 51 ∨ k = 55 ∨ k = 61 ∨ k = 62) : PS t (up t 121 k x) I C B :=
  ⟨fun c q h => up_ne (by omega), fun c q h1 h2 h3 => up_ne (by omega), fun c q h1 h2 h3 => up_ne (by omega), fun c q h1 h2 h3 => up_ne (by omega)⟩
theorem PS_upr {c k : Nat} {x : Int} (h : 144 ≤ c ∧ c ≤ 148 ∧ I ≤ k ∨ 160 ≤ c ∧ c ≤ 163 ∧ B ≤ k) : PS t (up t c k x) I C B :=
  ⟨fun c' q h' => up_ne (by omega), fun c' q h1 h2 h3 => up_ne (by omega), fun c' q h1 h2 h3 => up_ne (by omega), fun c' q h1 h2 h3 => up_ne (by omega)⟩
theorem PS_SR {t0 : iS} (h : PS t t2 I C B) (hr : SR t0 t) : SR t0 t2 := by
  unfold SR at hr ⊢
  rw [show t2 123 = t 123 from funext fun k => h.1 123 k (by omega), show t2 124 = t 124 from funext fun k => h.1 124 k (by omega), show t2 125 = t 125 from funext fun k => h.1 125 k (by omega), show t2 126 = t 126 from funext fun k => h.1 126 k (by omega), show t2 127 = t 127 from funext fun k => h.1 127 k (by omega), h.1 121 3 (by omega)]
  exact hr
theorem IMs_ps {q : Int} {l : List itm} {C3 : Nat} (h : IMs t I q C C2 l) (hp : PS t t2 I2 C3 B) (hI : I + l.length ≤ I2) (hC : C2 ≤ C3) : IMs t2 I q C C2 l := IMs_x h (fun c k h1 h2 h3 h4 => hp.2.1 c k h1 h2 (by omega)) (fun c k h1 h2 h3 h4 => hp.2.2.1 c k h1 h2 (by omega))
/-- where a jump goes to is not looked at -/
theorem IMs_hole {q : Int} {l : List itm} {k : Nat} {x : Int} (h : IMs t I q C C2 l) (hk : t 144 k = 15 ∨ t 144 k = 16) : IMs (up t 145 k x) I q C C2 l := by
  refine ⟨fun i hi => ?_, fun c' z1 z2 => ?_⟩
  case refine_2 =>
    obtain ⟨i, a1, a2, a3⟩ := h.2 c' z1 z2
    have := (h.1 i a1).2.1
    exact ⟨i, a1, a2, by rw [up_ne (fun q => by have := q.2; rw [← this] at hk; omega)]; exact a3⟩
  obtain ⟨a1, a2, a3⟩ := h.1 i hi
  refine ⟨by rw [up_ne (by omega), up_ne (by omega)]; exact a1, by rw [up_ne (by omega)]; exact a2, ?_⟩
  by_cases c : I + i = k
  · rw [c] at a2
    rcases a3 with ⟨b1, _⟩ | ⟨b1, b2, b3, b4, b5⟩
    · omega
    · exact Or.inr ⟨b1, b2, fun g1 g2 => by omega, by rw [up_ne (by omega)]; exact b4, by rw [up_ne (by omega)]; exact b5⟩
  · rcases a3 with ⟨b1, c', b2, b3, b4, b5, b6, b7, b8⟩ | ⟨b1, b2, b3, b4, b5⟩
    · exact Or.inl ⟨b1, c', b2, b3, by rw [up_ne (by omega)]; exact b4, by rw [up_ne (by omega)]; exact b5, by rw [up_ne (by omega)]; exact b6, by rw [up_ne (by omega)]; exact b7, fun g => by rw [up_ne (by omega)]; exact b8 g⟩
    · exact Or.inr ⟨b1, b2, fun g1 g2 => by rw [up_ne (by omega)]; exact b3 g1 g2, by rw [up_ne (by omega)]; exact b4, by rw [up_ne (by omega)]; exact b5⟩
end PSs
/-- both have gone on together, over statements -/
def GS (R : List itm → iS → Prop) (s0 t0 : iS) (N : Nat) (q : Int) (s' t' t : iS) (p I C B : Nat) (l : List itm) (p' o' w' C' lb' B' : Nat) (l' : List itm) : Prop := LV s0 t0 N q s' t' p' o' w' (I + l'.length) C' ∧ s' 22 7 = (lb' : Int) ∧ t' 121 50 = (lb' : Int) ∧ t' 121 55 = (B' : Int) ∧ p ≤ p' ∧ l'.length ≤ 3 * (p' - p) ∧ C ≤ C' ∧ C' - C ≤ p' - p ∧ R (l ++ l') s' ∧ IMs t' I q C C' l' ∧ PS t t' I C B
def DEADS (b : Int) (s0 t0 : iS) (N : Nat) (P : Nat → Nat) (t t1 : iS) (cl : Option (Int × iS)) : Prop := ∃ f u, ft f u N ∧ RD t0 N P t1 f u 3200 ∧ PS t t1 0 0 0 ∧ (b = 0 → ∃ r s', cl = some (r, s') ∧ CD s0 N s' f u)
section STa
variable {F : Nat → Int} {n N : Nat} {P : Nat → Nat} {s0 t0 : iS} {R : List itm → iS → Prop} {b q : Int} {fv : Nat → Int}
theorem GS_cat {s1 t1 s2 t2 t : iS} {p I C B B2 p1 o1 w1 C1 lb1 B1 p2 o2 w2 C2 lb2 B3 : Nat} {l l1 l2 : List itm} (h1 : GS R s0 t0 N q s1 t1 t p I C B l p1 o1 w1 C1 lb1 B1 l1) (h2 : GS R s0 t0 N q s2 t2 t1 p1 (I + l1.length) C1 B2 (l ++ l1) p2 o2 w2 C2 lb2 B3 l2) (hB : B ≤ B2) : GS R s0 t0 N q s2 t2 t p I C B l p2 o2 w2 C2 lb2 B3 (l1 ++ l2) := by
  obtain ⟨a1, a2, a3, a4, a5, a6, a7, a8, a9, a10, a11⟩ := h1
  obtain ⟨b1, b2, b3, b4, b5, b6, b7, b8, b9, b10, b11⟩ := h2
  refine ⟨?_, b2, b3, b4, by omega, by rw [List.length_append]; omega, by omega, by omega, ?_, ?_, ?_⟩
  · rw [List.length_append, ← Nat.add_assoc]; exact b1
  · rw [← List.append_assoc]; exact b9
  · exact IMs_app (IMs_ps a10 b11 (Nat.le_refl _) (Nat.le_refl _)) b10 a7 b7
  · exact PS_trans a11 b11 (by omega) a7 hB
/-- the beginning -/
theorem GS_0 {s t : iS} {p o w I C lb B : Nat} {l : List itm} (h : LV s0 t0 N q s t p o w I C) (hl : R l s) (h7 : s 22 7 = (lb : Int)) (h50 : t 121 50 = (lb : Int)) (h55 : t 121 55 = (B : Int)) {B0 : Nat} : GS R s0 t0 N q s t t p I C B0 l p o w C lb B [] := ⟨h, h7, h50, h55, Nat.le_refl _, Nat.zero_le _, Nat.le_refl _, by omega, by rw [List.append_nil]; exact hl, IMs_nil, PS_refl⟩
/-- one item more -/
theorem GS_add {s1 t1 s2 t : iS} {p I C B p1 o1 w1 C1 lb B1 : Nat} {l l1 : List itm} {a b' c d : Int} (g : GS R s0 t0 N q s1 t1 t p I C B l p1 o1 w1 C1 lb B1 l1) (hM : MD s1 s2) (h2 : R (l ++ l1 ++ [(a, b', c, d)]) s2) (ha : a ≠ 9 ∧ a ≠ 10) (hb : l1.length + 1 ≤ 3 * (p1 - p)) (hI : I ≤ 3 * p) (hd : 0 ≤ d ∧ d < 2002 := by omega) : GS R s0 t0 N q s2 (adt t1 (I + l1.length) a b' c d) t p I C B l p1 o1 w1 C1 lb B1 (l1 ++ [(a, b', c, d)]) := by
  obtain ⟨a1, a2, a3, a4, a5, a6, a7, a8, a9, a10, a11⟩ := g
  have PP : PS t1 (adt t1 (I + l1.length) a b' c d) (I + l1.length) C1 B := PS_PG (K := 0) (PG_adt (Nat.le_refl _))
  refine ⟨?_, ?_, ?_, ?_, a5, ?_, a7, a8, ?_, ?_, PS_trans a11 PP (by omega) a7 (Nat.le_refl _)⟩
  · rw [List.length_append, ← Nat.add_assoc]
    exact LV_adt (LV_MD a1 hM) (by omega)
  · rw [MD_at hM (by omega) (by omega)]; exact a2
  · rw [adt_ne (by omega) (by omega)]; exact a3
  · rw [adt_ne (by omega) (by omega)]; exact a4
  · rw [List.length_append]; exact hb
  · rw [← List.append_assoc]; exact h2
  · exact IMs_app (C1 := C1) (IMs_ps a10 PP (Nat.le_refl _) (Nat.le_refl _)) (IMs_one a1.2.2.2.2.2.2.2.2.2.2.2.2.2.2.2.2 ha hd) a7 (Nat.le_refl _)
/-- an item of the reference without a command of the class -/
theorem GS_add0 {s1 t1 t : iS} {p I C B p1 o1 w1 C1 lb B1 : Nat} {l l1 : List itm} {a b' c d : Int} (g : GS R s0 t0 N q s1 t1 t p I C B l p1 o1 w1 C1 lb B1 l1) (h2 : R (l ++ l1 ++ [(a, b', c, d)]) s1) (ha : a ≠ 9 ∧ a ≠ 10) (hb : l1.length + 1 ≤ 3 * (p1 - p)) (hI : I ≤ 3 * p) (hd : 0 ≤ d ∧ d < 2002 := by omega) : GS R s0 t0 N q s1 (adt t1 (I + l1.length) a b' c d) t p I C B l p1 o1 w1 C1 lb B1 (l1 ++ [(a, b', c, d)]) := GS_add g md_refl h2 ha hb hI hd
/-- the next token -/
theorem GS_next {s1 t1 t : iS} {p I C B p1 o1 w1 C1 lb B1 : Nat} {l l1 : List itm} (hR : RHE R b fv s0 N) (g : GS R s0 t0 N q s1 t1 t p I C B l p1 o1 w1 C1 lb B1 l1) (hp : p1 + 1 < N) : GS R s0 t0 N q (up s1 2 12 ((p1 + 1 : Nat) : Int)) (up t1 121 10 ((p1 + 1 : Nat) : Int)) t p I C B l (p1 + 1) o1 w1 C1 lb B1 l1 := by
  obtain ⟨a1, a2, a3, a4, a5, a6, a7, a8, a9, a10, a11⟩ := g
  have PP : PS t1 (up t1 121 10 ((p1 + 1 : Nat) : Int)) (I + l1.length) C1 B := PS_up (by omega)
  exact ⟨LV_go a1 hp, by rw [up_ne (by omega)]; exact a2, by rw [up_ne (by omega)]; exact a3, by rw [up_ne (by omega)]; exact a4, by omega, by omega, a7, by omega, (hR.1 _ _ _ a9).1, IMs_ps a10 PP (Nat.le_refl _) (Nat.le_refl _), PS_trans a11 PP (by omega) a7 (Nat.le_refl _)⟩
theorem GS_open {s1 t1 t : iS} {p I C B p1 o1 w1 C1 lb B1 : Nat} {l l1 : List itm} (hR : RHE R b fv s0 N) (g : GS R s0 t0 N q s1 t1 t p I C B l p1 o1 w1 C1 lb B1 l1) (hp : p1 + 1 < N) (ho : o1 < 25) : GS R s0 t0 N q (up (up s1 22 5 ((o1 + 1 : Nat) : Int)) 2 12 ((p1 + 1 : Nat) : Int)) (up (up t1 121 48 ((o1 + 1 : Nat) : Int)) 121 10 ((p1 + 1 : Nat) : Int)) t p I C B l (p1 + 1) (o1 + 1) w1 C1 lb B1 l1 := by
  obtain ⟨a1, a2, a3, a4, a5, a6, a7, a8, a9, a10, a11⟩ := g
  have PP : PS t1 (up (up t1 121 48 ((o1 + 1 : Nat) : Int)) 121 10 ((p1 + 1 : Nat) : Int)) (I + l1.length) C1 B := PS_trans (PS_up (by omega)) (PS_up (by omega)) (Nat.le_refl _) (Nat.le_refl _) (Nat.le_refl _)
  exact ⟨LV_open a1 hp ho, by rw [up_ne (by omega), up_ne (by omega)]; exact a2, by rw [up_ne (by omega), up_ne (by omega)]; exact a3, by rw [up_ne (by omega), up_ne (by omega)]; exact a4, by omega, by omega, a7, by omega, (hR.1 _ _ _ (hR.1 _ _ _ a9).2.1).1, IMs_ps a10 PP (Nat.le_refl _) (Nat.le_refl _), PS_trans a11 PP (by omega) a7 (Nat.le_refl _)⟩
theorem GS_close {s1 t1 t : iS} {p I C B p1 o1 w1 C1 lb B1 : Nat} {l l1 : List itm} (hR : RHE R b fv s0 N) (g : GS R s0 t0 N q s1 t1 t p I C B l p1 (o1 + 1) w1 C1 lb B1 l1) (hp : p1 + 1 < N) : GS R s0 t0 N q (up (up s1 2 12 ((p1 + 1 : Nat) : Int)) 22 5 (o1 : Int)) (up (up t1 121 10 ((p1 + 1 : Nat) : Int)) 121 48 (o1 : Int)) t p I C B l (p1 + 1) o1 w1 C1 lb B1 l1 := by
  obtain ⟨a1, a2, a3, a4, a5, a6, a7, a8, a9, a10, a11⟩ := g
  have PP : PS t1 (up (up t1 121 10 ((p1 + 1 : Nat) : Int)) 121 48 (o1 : Int)) (I + l1.length) C1 B := PS_trans (PS_up (by omega)) (PS_up (by omega)) (Nat.le_refl _) (Nat.le_refl _) (Nat.le_refl _)
  exact ⟨LV_close a1 hp, by rw [up_ne (by omega), up_ne (by omega)]; exact a2, by rw [up_ne (by omega), up_ne (by omega)]; exact a3, by rw [up_ne (by omega), up_ne (by omega)]; exact a4, by omega, by omega, a7, by omega, (hR.1 _ _ _ (hR.1 _ _ _ a9).1).2.1, IMs_ps a10 PP (Nat.le_refl _) (Nat.le_refl _), PS_trans a11 PP (by omega) a7 (Nat.le_refl _)⟩
theorem xpD {t : iS} (hf : 0 < t 121 11 ∧ t 121 11 < 100) : m_expression t = some (0, t) := by
  unfold m_expression
  rw [gr (by omega), if_neg (by omega)]
/-- an expression at the top -/
theorem x_top (h : TKR 0 F n N P s0 t0) (hR : RHE R b fv s0 N) {s1 t1 t : iS} {p I C B p1 o1 w1 C1 lb B1 : Nat} {l l1 : List itm} {m : Nat} (g : GS R s0 t0 N q s1 t1 t p I C B l p1 o1 w1 C1 lb B1 l1) (ho : 6 * (25 - o1) + 7 ≤ m) : (∃ s2 t2 p2 w2 C2 l2, trlE m 1 0 0 0 s1 = some (0, s2) ∧ m_expression t1 = some (0, t2) ∧ (p1 < p2 ∧ GX s0 1 o1 p1 w1 p2 w2 0 l2) ∧ s0 9 p2 ∉ sO ∧ GS R s0 t0 N q s2 t2 t p I C B l p2 o1 w2 C2 lb B1 (l1 ++ l2) ∧ l2.length ≤ p2 - p1) ∨ (∃ t2, m_expression t1 = some (0, t2) ∧ DEADS b s0 t0 N P t t2 (trlE m 1 0 0 0 s1)) := by
  have hN2 := N1001 h
  have g' := g
  obtain ⟨a1, a2, a3, a4, a5, a6, a7, a8, a9, a10, a11⟩ := g
  have a1' := a1
  obtain ⟨h1, h2, h3, h4, h5, h6, h7, h8, h9, h10, h11, h12, h13, h14, h15, h16, h17⟩ := a1
  have M0 : m_expression t1 = (eL (up (psh (up (up t1 121 51 0) 121 62 0) 0 0) 121 61 1)).bind (fun e => some (0, e)) := by
    unfold m_expression
    rw [gr (by omega), if_pos (by omega), lt_eq, lt_eq, psh_ok (k := 0) (by rw [up_ne (by omega), up_same]; rfl) (by omega), bq, lt_eq, exq]
    cases eL (up (psh (up (up t1 121 51 0) 121 62 0) 0 0) 121 61 1) with
    | none => rfl
    | some x => rw [bn, bq]
  have hL : LV s0 t0 N q s1 (up (psh (up (up t1 121 51 0) 121 62 0) 0 0) 121 61 1) p1 o1 w1 (I + l1.length) C1 := LV_r a1' (SR_up (PG_SR psh_PG0 (SR_up (SR_up h2 (by omega)) (by omega))) (by omega)) (fun j hj => by rw [up_ne (by omega), psh_ne (by omega) (by omega), up_ne (by omega), up_ne (by omega)])
  have k157 : up (psh (up (up t1 121 51 0) 121 62 0) 0 0) 121 61 1 157 0 = 0 := by rw [up_ne (by omega)]; exact psh_at.1
  have k158 : up (psh (up (up t1 121 51 0) 121 62 0) 0 0) 121 61 1 158 0 = 0 := by rw [up_ne (by omega)]; exact psh_at.2
  have k51 : up (psh (up (up t1 121 51 0) 121 62 0) 0 0) 121 61 1 121 51 = ((0 + 1 : Nat) : Int) := by rw [up_ne (by omega)]; exact psh_51
  have k62 : up (psh (up (up t1 121 51 0) 121 62 0) 0 0) 121 61 1 121 62 = 0 := by rw [up_ne (by omega), psh_ne (by omega) (by omega), up_same]
  have k61 : up (psh (up (up t1 121 51 0) 121 62 0) 0 0) 121 61 1 121 61 = 1 := up_same _ _ _ _
  have P0 : PS t1 (up (psh (up (up t1 121 51 0) 121 62 0) 0 0) 121 61 1) (I + l1.length) C1 B := PS_trans (PS_trans (PS_trans (PS_up (by omega)) (PS_up (by omega)) (Nat.le_refl _) (Nat.le_refl _) (Nat.le_refl _)) (PS_PG (K := 0) (psh_PG (Nat.zero_le _))) (Nat.le_refl _) (Nat.le_refl _) (Nat.le_refl _)) (PS_up (by omega)) (Nat.le_refl _) (Nat.le_refl _) (Nat.le_refl _)
  have k50 : ∀ j, j = 50 ∨ j = 55 → up (psh (up (up t1 121 51 0) 121 62 0) 0 0) 121 61 1 121 j = t1 121 j := fun j hj => by rw [up_ne (by omega), psh_ne (by omega) (by omega), up_ne (by omega), up_ne (by omega)]
  generalize up (psh (up (up t1 121 51 0) 121 62 0) 0 0) 121 61 1 = ta at *
  rw [M0]
  rcases (exprs_ok (q := q) h hR m).2.1 s1 ta p1 o1 w1 (I + l1.length) C1 0 (l ++ l1) hL a9 k61 k51 (Nat.zero_le _) (by omega) (fun _ => k62) k158 (by omega) with ⟨s2, t2, t3, p2, w2, C2, l2, e1, e2, e3, e4, e5, e6, e7, e8, e9, e10, e11, e12, e13, e14, e15⟩ | ⟨t', e1, f, u, e2, e3, e4, e5⟩
  case inr =>
    rw [e1, bn]
    exact Or.inr ⟨t', rfl, f, u, e2, RD_mono e3 (by omega), PS0_trans (PS_0 (PS_trans a11 P0 (by omega) a7 (Nat.le_refl _))) (PS_PG (K := 0) e4), e5⟩
  obtain ⟨i1, i2, i3, i4, i5, i6, i7, i8⟩ := e15
  have i1' := i1
  obtain ⟨j1, j2, j3, j4, j5, j6, j7, j8, j9, j10, j11, j12, j13, j14, j15, j16, j17⟩ := i1
  have B0 : m_behindTerm t2 = some (0, up t3 121 51 0) := by
    rw [e7]
    unfold m_behindTerm_121
    rw [mop h j2 j4 j5, bq, if_neg e11, gr (by omega), if_pos rfl, gd_pos (by omega), show ((0 : Nat) : Int).toNat = 0 from rfl, e12, k157, gr (by omega), if_pos rfl, lt_eq]
  have E1 := eL_bt e4 ⟨e5, e6⟩ e3 B0
  have E2 : eL (up t3 121 51 0) = some (up t3 121 51 0) := eL_end (by rw [up_ne (by omega)]; exact j6) (up_same _ _ _ _)
  rw [e2, E1, E2, bn]
  have fr : s2 22 7 = s1 22 7 := ftrlE m 1 0 0 0 s1 (0, s2) e1 22 7 (by decide) (by decide)
  have PP : PS ta (up t3 121 51 0) (I + l1.length) C1 B := PS_trans (PS_PG i8) (PS_up (by omega)) (Nat.le_refl _) (Nat.le_refl _) (Nat.le_refl _)
  refine Or.inl ⟨s2, _, p2, w2, C2, l2, e1, rfl, e10, e11, ⟨?_, by rw [fr]; exact a2, ?_, ?_, by omega, by rw [List.length_append]; omega, by omega, by omega, by rw [← List.append_assoc]; exact i6, ?_, PS_trans a11 (PS_trans P0 PP (Nat.le_refl _) (Nat.le_refl _) (Nat.le_refl _)) (by omega) a7 (Nat.le_refl _)⟩, i3⟩
  · rw [List.length_append, ← Nat.add_assoc]
    exact LV_r i1' (SR_up j2 (by omega)) (fun j hj => up_ne (by omega))
  · rw [up_ne (by omega), PG_c i8 (by omega), k50 50 (by omega)]; exact a3
  · rw [up_ne (by omega), PG_c i8 (by omega), k50 55 (by omega)]; exact a4
  · refine IMs_app (C1 := C1) (IMs_ps (IMs_ps a10 P0 (Nat.le_refl _) (Nat.le_refl _)) PP (Nat.le_refl _) (Nat.le_refl _)) ?_ a7 i4
    exact IMs_x i7 (fun c k z1 z2 z3 z4 => up_ne (by omega)) (fun c k z1 z2 z3 z4 => up_ne (by omega))
end STa
