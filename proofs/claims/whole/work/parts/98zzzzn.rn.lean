/-! the items of a sub: heights of the stack, nesting, marks that wait -/
/-- values that stand; tokens of the statements that are open; is the class's place that of the statement; the mark that waits -/
abbrev aS := Nat × List Nat × Bool × Int
def nxA (P : Nat → Nat) (ob : Int → Nat) (e0 : itm → Bool) (a : aS) (r : itm) : aS :=
  (if r.1 = 0 ∨ r.1 = 1 ∨ r.1 = 3 ∨ r.1 = 4 then a.1 + 1 else if r.1 = 5 ∨ r.1 = 6 then a.1 - 1 else if r.1 = 9 then a.1 + ob r.2.1 else if r.1 = 10 then a.1 - (r.2.2.2.toNat + ob r.2.1) + 1 else if r.1 = 13 ∨ r.1 = 15 ∨ r.1 = 18 ∨ r.1 = 19 then a.1 - 1 else if r.1 = 14 then a.1 - 2 else a.1,
   if r.1 = 11 then r.2.2.2.toNat :: a.2.1 else if r.1 = 12 ∨ r.1 = 18 then a.2.1.tail else a.2.1,
   if r.1 = 11 ∨ r.1 = 17 then true else if r.1 = 12 ∨ r.1 = 15 ∨ r.1 = 16 ∨ r.1 = 18 ∨ r.1 = 20 then false else a.2.2.1,
   if r.1 = 11 ∨ r.1 = 17 then (P r.2.2.2.toNat : Int) else if e0 r = true then a.2.2.2 else -1)
def rqA (ob : Int → Nat) (H : Nat) (a : aS) (r : itm) : Prop :=
  (r.1 = 5 ∨ r.1 = 6 ∨ r.1 = 14 → 2 ≤ a.1) ∧ (r.1 = 7 ∨ r.1 = 8 ∨ r.1 = 13 ∨ r.1 = 15 ∨ r.1 = 19 → 1 ≤ a.1) ∧ (r.1 = 10 → r.2.2.2.toNat + ob r.2.1 ≤ a.1) ∧ (r.1 = 15 ∨ r.1 = 18 → a.1 = 1) ∧ (r.1 = 11 ∨ r.1 = 12 ∨ r.1 = 16 ∨ r.1 = 17 ∨ r.1 = 20 → a.1 = 0) ∧ a.1 < H ∧ (r.1 = 12 → a.2.1 ≠ []) ∧ a.2.1.length < 30 ∧ (r.1 = 1 ∨ r.1 = 4 ∨ r.1 = 5 ∨ r.1 = 6 ∨ r.1 = 9 ∨ r.1 = 10 ∨ r.1 = 13 ∨ r.1 = 14 → a.2.2.1 = true) ∧ (r.1 = 11 ∨ r.1 = 12 ∨ r.1 = 17 → a.2.2.2 = -1) ∧ (r.1 = 17 → ∃ w, a.2.1 = r.2.2.2.toNat :: w)
def okA (P : Nat → Nat) (ob : Int → Nat) (e0 : itm → Bool) (H : Nat) : aS → List itm → Prop
  | _, [] => True
  | a, r :: l => rqA ob H a r ∧ okA P ob e0 H (nxA P ob e0 a r) l
def fdA (P : Nat → Nat) (ob : Int → Nat) (e0 : itm → Bool) (a : aS) (l : List itm) : aS := l.foldl (nxA P ob e0) a
/-- which items put down no command; how many values a call takes -/
def EVa (e0 : itm → Bool) (r : itm) : Prop := (r.1 ≠ 9 → r.1 ≠ 11 → r.1 ≠ 12 → r.1 ≠ 17 → e0 r = false) ∧ (r.1 = 10 → r.2.2.2.toNat ≤ 12)
def bnd (g o n : Nat) : Nat := if g = 0 then 14 * (25 - o) + 1 else if g = 1 then 14 * (25 - o) + 2 else if g = 2 then 14 * (25 - o) + 1 else (n - 1) + 14 * (25 - o) + 2
section RNa
variable {s0 t : iS} {P : Nat → Nat} {ob : Int → Nat} {e0 : itm → Bool} {H : Nat} {a : aS} {l l1 l2 : List itm} {r : itm}
theorem fdA_app : fdA P ob e0 a (l1 ++ l2) = fdA P ob e0 (fdA P ob e0 a l1) l2 := List.foldl_append
theorem fdA_nil : fdA P ob e0 a [] = a := rfl
theorem fdA_cons : fdA P ob e0 a (r :: l) = fdA P ob e0 (nxA P ob e0 a r) l := rfl
theorem okA_app : ∀ (l1 : List itm) (a : aS), okA P ob e0 H a (l1 ++ l2) ↔ okA P ob e0 H a l1 ∧ okA P ob e0 H (fdA P ob e0 a l1) l2
  | [], a => by
    show okA P ob e0 H a l2 ↔ True ∧ okA P ob e0 H a l2
    exact ⟨fun h => ⟨trivial, h⟩, fun h => h.2⟩
  | r :: l, a => by
    show (rqA ob H a r ∧ okA P ob e0 H (nxA P ob e0 a r) (l ++ l2)) ↔ (rqA ob H a r ∧ okA P ob e0 H (nxA P ob e0 a r) l) ∧ okA P ob e0 H (fdA P ob e0 (nxA P ob e0 a r) l) l2
    rw [okA_app l (nxA P ob e0 a r)]
    exact ⟨fun h => ⟨⟨h.1, h.2.1⟩, h.2.2⟩, fun h => ⟨h.1.1, h.1.2, h.2⟩⟩
theorem okA_one (h : rqA ob H a r) : okA P ob e0 H a [r] := ⟨h, trivial⟩
/-- the items of a call -/
theorem cl_an (hob : ∀ x, ob x ≤ 1) {o a hh : Nat} {nn : List Nat} {f x pm : Int} {lx : List itm} (ho : o < 25) (ih : ∀ (hh : Nat) (nn : List Nat) (pm : Int), hh + bnd 3 (o + 1) a < H → nn.length < 30 → okA P ob e0 H (hh, nn, true, pm) lx ∧ fdA P ob e0 (hh, nn, true, pm) lx = (hh + a, nn, true, if lx = [] then pm else -1)) (he : ∀ r ∈ ((9, f, x, 0) :: lx ++ [(10, f, x, (a : Int))] : List itm), EVa e0 r) (hb : hh + bnd 2 o 0 < H) (hn : nn.length < 30) : okA P ob e0 H (hh, nn, true, pm) ((9, f, x, 0) :: lx ++ [(10, f, x, (a : Int))]) ∧ fdA P ob e0 (hh, nn, true, pm) ((9, f, x, 0) :: lx ++ [(10, f, x, (a : Int))]) = (hh + 1, nn, true, -1) := by
  have m10 : ((10, f, x, (a : Int)) : itm) ∈ ((9, f, x, 0) :: lx ++ [(10, f, x, (a : Int))] : List itm) := by simp
  obtain ⟨e, a12⟩ := he _ m10
  have e10 := e (by simp) (by simp) (by simp) (by simp)
  have a12' : a ≤ 12 := by have := a12 rfl; simpa using this
  have o1 := hob f
  have bb : hh + 14 * (25 - o) + 1 < H := by simpa [bnd, Nat.add_assoc] using hb
  have n9 : nxA P ob e0 (hh, nn, true, pm) (9, f, x, 0) = (hh + ob f, nn, true, if e0 (9, f, x, 0) = true then pm else -1) := by simp [nxA]
  obtain ⟨i1, i2⟩ := ih (hh + ob f) nn (if e0 (9, f, x, 0) = true then pm else -1) (by simp only [bnd]; simp; omega) hn
  constructor
  · refine ⟨by have : hh < H := by omega
               simp [rqA, this, hn], ?_⟩
    rw [n9]
    refine (okA_app lx _).mpr ⟨i1, ?_⟩
    rw [i2]
    have b2 : hh + ob f + a < H := by omega
    exact okA_one (by simp [rqA, b2, hn]; omega)
  · rw [List.cons_append, fdA_cons, n9, fdA_app, i2]
    simp [fdA, nxA, e10]
    omega
/-- the items of an expression -/
theorem GX_an (hob : ∀ x, ob x ≤ 1) {g o p w p' w' n : Nat} (h : GX s0 g o p w p' w' n l) : (∀ r ∈ l, EVa e0 r) → ∀ (hh : Nat) (nn : List Nat) (pm : Int), hh + bnd g o n < H → nn.length < 30 → okA P ob e0 H (hh, nn, true, pm) l ∧ fdA P ob e0 (hh, nn, true, pm) l = (hh + (if g = 3 then n else 1), nn, true, if l = [] then pm else -1) ∧ (g ≠ 3 → l ≠ []) := by
  refine h (fun g o p w p' w' n l => (∀ r ∈ l, EVa e0 r) → ∀ (hh : Nat) (nn : List Nat) (pm : Int), hh + bnd g o n < H → nn.length < 30 → okA P ob e0 H (hh, nn, true, pm) l ∧ fdA P ob e0 (hh, nn, true, pm) l = (hh + (if g = 3 then n else 1), nn, true, if l = [] then pm else -1) ∧ (g ≠ 3 → l ≠ [])) ⟨?_, ?_, ?_, ?_, ?_, ?_, ?_, ?_, ?_, ?_, ?_, ?_, ?_, ?_, ?_⟩
  · intro o p w v _ he hh nn pm hb hn
    have e := (he _ List.mem_cons_self).1 (by simp) (by simp) (by simp) (by simp)
    have b : hh < H := by omega
    refine ⟨okA_one (by simp [rqA, b, hn]), ?_, fun _ => by simp⟩
    simp [fdA, nxA, e]
  · intro o p w k _ _ he hh nn pm hb hn
    have e := (he _ List.mem_cons_self).1 (by simp) (by simp) (by simp) (by simp)
    have b : hh < H := by omega
    refine ⟨okA_one (by simp [rqA, b, hn]), ?_, fun _ => by simp⟩
    simp [fdA, nxA, e]
  · intro o p w he hh nn pm hb hn
    have e := (he _ List.mem_cons_self).1 (by simp) (by simp) (by simp) (by simp)
    have b : hh < H := by omega
    refine ⟨okA_one (by simp [rqA, b, hn]), ?_, fun _ => by simp⟩
    simp [fdA, nxA, e]
  · intro o p w _ he hh nn pm hb hn
    have e := (he _ List.mem_cons_self).1 (by simp) (by simp) (by simp) (by simp)
    have b : hh < H := by omega
    refine ⟨okA_one (by simp [rqA, b, hn]), ?_, fun _ => by simp⟩
    simp [fdA, nxA, e]
  · intro o p w p' w' l ho ih he hh nn pm hb hn
    obtain ⟨i1, i2, i3⟩ := ih he hh nn pm (by simp only [bnd] at hb ⊢; simp at hb ⊢; omega) hn
    exact ⟨i1, i2, fun _ => i3 (by decide)⟩
  · intro o p w p' w' l a j ho ha ih he hh nn pm hb hn
    obtain ⟨i1, i2, i3⟩ := ih (fun r hr => he r (List.mem_append_left _ hr)) hh nn pm (by simp only [bnd] at hb ⊢; simp at hb ⊢; omega) hn
    have e := (he (a, 0, 0, j) (by simp)).1 (by show a ≠ 9; omega) (by show a ≠ 11; omega) (by show a ≠ 12; omega) (by show a ≠ 17; omega)
    have l0 := i3 (by decide)
    rw [if_neg (by decide), if_neg l0] at i2
    have b : hh + 1 < H := by simp only [bnd] at hb; simp at hb; omega
    refine ⟨(okA_app l _).mpr ⟨i1, by rw [i2]; exact okA_one (by rcases ha with q | q <;> subst q <;> simp [rqA, b, hn])⟩, ?_, fun _ => by simp⟩
    rw [fdA_app, i2]
    rcases ha with q | q <;> subst q <;> simp [fdA, nxA, e]
  · intro o p w p' w' l j _ ho ih he hh nn pm hb hn
    have e4 := (he (4, 0, 0, (p : Int)) (by simp)).1 (by simp) (by simp) (by simp) (by simp)
    have e5 := (he (5, 0, 0, j) (by simp)).1 (by simp) (by simp) (by simp) (by simp)
    have b2 : hh + 2 < H := by simp only [bnd] at hb; simp at hb; omega
    obtain ⟨i1, i2, i3⟩ := ih (fun r hr => he r (by simp [hr])) (hh + 1) nn (-1) (by simp only [bnd] at hb ⊢; simp at hb ⊢; omega) hn
    have l0 := i3 (by decide)
    rw [if_neg (by decide), if_neg l0] at i2
    have n4 : nxA P ob e0 (hh, nn, true, pm) (4, 0, 0, (p : Int)) = (hh + 1, nn, true, -1) := by simp [nxA, e4]
    refine ⟨?_, ?_, fun _ => by simp⟩
    · refine ⟨by have : hh < H := by omega
                 simp [rqA, this, hn], ?_⟩
      rw [n4]
      refine (okA_app l _).mpr ⟨i1, ?_⟩
      rw [i2]
      exact okA_one (by simp [rqA, b2, hn])
    · rw [List.cons_append, fdA_cons, n4, fdA_app, i2]
      simp [fdA, nxA, e5]
  · intro o p w p' w' l ih he hh nn pm hb hn
    obtain ⟨i1, i2, i3⟩ := ih he hh nn pm (by simp only [bnd] at hb ⊢; simp at hb ⊢; omega) hn
    exact ⟨i1, i2, fun _ => i3 (by decide)⟩
  · intro o p w p' w' l ih he hh nn pm hb hn
    obtain ⟨i1, i2, i3⟩ := ih he hh nn pm (by simp only [bnd] at hb ⊢; simp at hb ⊢; omega) hn
    exact ⟨i1, i2, fun _ => i3 (by decide)⟩
  · intro o p w p1 w1 p2 w2 l1 l2 c j ih1 hc ih2 he hh nn pm hb hn
    have e6 := (he (6, c, 0, j) (by simp)).1 (by simp) (by simp) (by simp) (by simp)
    obtain ⟨i1, i2, i3⟩ := ih1 (fun r hr => he r (by simp [hr])) hh nn pm hb hn
    have l0 := i3 (by decide)
    rw [if_neg (by decide), if_neg l0] at i2
    obtain ⟨k1, k2, k3⟩ := ih2 (fun r hr => he r (by simp [hr])) (hh + 1) nn (-1) (by simp only [bnd] at hb ⊢; simp at hb ⊢; omega) hn
    have l02 := k3 (by decide)
    rw [if_neg (by decide), if_neg l02] at k2
    have b2 : hh + 1 + 1 < H := by simp only [bnd] at hb; simp at hb; omega
    refine ⟨(okA_app l1 _).mpr ⟨i1, ?_⟩, ?_, fun _ => by simp⟩
    · rw [i2]
      refine (okA_app l2 _).mpr ⟨k1, ?_⟩
      rw [k2]
      exact okA_one (by simp [rqA, b2, hn])
    · rw [fdA_app, i2, fdA_app, k2]
      simp [fdA, nxA, e6]
  · intro o p w p' w' a l _ ho ih he hh nn pm hb hn
    obtain ⟨c1, c2⟩ := cl_an hob ho (f := -1) (x := (p : Int)) (a := a) (lx := l) (fun hh nn pm h1 h2 => by obtain ⟨q1, q2, _⟩ := ih (fun r hr => he r (by simp [hr])) hh nn pm h1 h2; exact ⟨q1, q2⟩) he hb hn (pm := pm)
    exact ⟨c1, by rw [c2, if_neg (by decide), if_neg (by simp)], fun _ => by simp⟩
  · intro o p w p' w' a l _ _ ho ih he hh nn pm hb hn
    obtain ⟨c1, c2⟩ := cl_an hob ho (f := (p : Int)) (x := ((p + 2 : Nat) : Int)) (a := a) (lx := l) (fun hh nn pm h1 h2 => by obtain ⟨q1, q2, _⟩ := ih (fun r hr => he r (by simp [hr])) hh nn pm h1 h2; exact ⟨q1, q2⟩) he hb hn (pm := pm)
    exact ⟨c1, by rw [c2, if_neg (by decide), if_neg (by simp)], fun _ => by simp⟩
  · intro o p w he hh nn pm hb hn
    exact ⟨trivial, by simp [fdA], fun q => absurd rfl q⟩
  · intro o p w p' w' l ih he hh nn pm hb hn
    obtain ⟨i1, i2, i3⟩ := ih he hh nn pm (by simp only [bnd] at hb ⊢; simp at hb ⊢; omega) hn
    exact ⟨i1, i2, fun q => absurd rfl q⟩
  · intro o p w p1 w1 p2 w2 a l1 l2 ih1 ih2 he hh nn pm hb hn
    obtain ⟨i1, i2, i3⟩ := ih1 (fun r hr => he r (by simp [hr])) hh nn pm (by simp only [bnd] at hb ⊢; simp at hb ⊢; omega) hn
    rw [if_pos rfl] at i2
    obtain ⟨k1, k2, k3⟩ := ih2 (fun r hr => he r (by simp [hr])) (hh + (a + 1)) nn (if l1 = [] then pm else -1) (by simp only [bnd] at hb ⊢; simp at hb ⊢; omega) hn
    have l02 := k3 (by decide)
    rw [if_neg (show ¬ (1 : Nat) = 3 by decide), if_neg l02] at k2
    refine ⟨(okA_app l1 _).mpr ⟨i1, by rw [i2]; exact k1⟩, ?_, fun q => absurd rfl q⟩
    rw [fdA_app, i2, k2, if_pos rfl, if_neg (by simp [l02])]
    rfl
end RNa
