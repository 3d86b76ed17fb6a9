/-! the tokens of the items -/
section ITs
variable {s0 t : iS} {g o p w p' w' n I lb lb' : Nat} {l l1 l2 : List itm}
def ITo (s0 : iS) (lo hi : Nat) (r : itm) : Prop :=
  (0 ≤ r.1 ∧ r.1 ≤ 20) ∧ (r.1 = 3 ∨ r.1 = 4 ∨ r.1 = 13 → ∃ j : Nat, r.2.2.2 = (j : Int) ∧ lo ≤ j ∧ j < hi ∧ (r.1 ≠ 3 → s0 9 j = 3)) ∧
  (r.1 = 9 ∨ r.1 = 10 → (∃ j : Nat, r.2.2.1 = (j : Int) ∧ lo ≤ j ∧ j < hi ∧ s0 9 j = 3) ∧ (r.2.1 = -1 ∨ ∃ j : Nat, r.2.1 = (j : Int) ∧ lo ≤ j ∧ j < hi ∧ s0 9 j = 3) ∧ (r.1 = 9 → r.2.2.2 = 0) ∧ (r.1 = 10 → ∃ a : Nat, r.2.2.2 = (a : Int) ∧ a ≤ hi)) ∧
  (r.1 = 11 ∨ r.1 = 17 → ∃ j : Nat, r.2.2.2 = (j : Int) ∧ lo ≤ j ∧ j < hi) ∧ (r.1 = 0 → -1 ≤ r.2.1 ∧ r.2.1 ≤ 32767) ∧ (r.1 = 1 → ∃ j : Nat, r.2.2.2 = (j : Int) ∧ lo ≤ j ∧ j < hi ∧ s0 9 j = 5) ∧ (r.1 = 6 → r.2.1 ∈ sO)
theorem ITo_mono {lo hi lo' hi' : Nat} {r : itm} (h : ITo s0 lo hi r) (h1 : lo' ≤ lo) (h2 : hi ≤ hi') : ITo s0 lo' hi' r := by
  obtain ⟨a, b, c, d, d0, d1, d6⟩ := h
  refine ⟨a, fun q => ?_, fun q => ?_, fun q => by obtain ⟨j, e1, e2, e3⟩ := d q; exact ⟨j, e1, by omega, by omega⟩, d0, fun q => by obtain ⟨j, e1, e2, e3, e4⟩ := d1 q; exact ⟨j, e1, by omega, by omega, e4⟩, d6⟩
  · obtain ⟨j, e1, e2, e3, e4⟩ := b q
    exact ⟨j, e1, by omega, by omega, e4⟩
  · obtain ⟨⟨j, e1, e2, e3, e4⟩, e5, e6, e7⟩ := c q
    refine ⟨⟨j, e1, by omega, by omega, e4⟩, ?_, e6, fun z => ?_⟩
    · rcases e5 with e5 | ⟨j', f1, f2, f3, f4⟩
      · exact Or.inl e5
      · exact Or.inr ⟨j', f1, by omega, by omega, f4⟩
    · obtain ⟨a, f1, f2⟩ := e7 z
      exact ⟨a, f1, by omega⟩
theorem ITo_pl {lo hi : Nat} {r : itm} (h : 0 ≤ r.1 ∧ r.1 ≤ 20) (h2 : ¬ (r.1 = 3 ∨ r.1 = 4 ∨ r.1 = 13 ∨ r.1 = 9 ∨ r.1 = 10 ∨ r.1 = 11 ∨ r.1 = 17)) (h3 : (r.1 = 0 → -1 ≤ r.2.1 ∧ r.2.1 ≤ 32767) ∧ r.1 ≠ 1 ∧ (r.1 = 6 → r.2.1 ∈ sO)) : ITo s0 lo hi r := ⟨h, fun q => absurd q (by omega), fun q => absurd q (by omega), fun q => absurd q (by omega), h3.1, fun q => absurd q h3.2.1, h3.2.2⟩
/-- object and call go together; a let has its variable -/
def PRl (s0 : iS) (l : List itm) : Prop := (∀ r ∈ l, r.1 = 9 → ∃ m, ((10, r.2.1, r.2.2.1, m) : itm) ∈ l) ∧ (∀ r ∈ l, r.1 = 10 → ((9, r.2.1, r.2.2.1, 0) : itm) ∈ l) ∧ (∀ r ∈ l, r.1 = 11 → s0 9 r.2.2.2.toNat = 271 → ∃ r' ∈ l, (r'.1 = 4 ∨ r'.1 = 13) ∧ r'.2.2.2 = r.2.2.2 + 1)
theorem PRl_nil : PRl s0 [] := ⟨fun r hr => by simp at hr, fun r hr => by simp at hr, fun r hr => by simp at hr⟩
theorem PRl_app (h : PRl s0 l1) (h' : PRl s0 l2) : PRl s0 (l1 ++ l2) := by
  refine ⟨fun r hr q => ?_, fun r hr q => ?_, fun r hr q q2 => ?_⟩
  · rcases List.mem_append.mp hr with z | z
    · obtain ⟨m, e⟩ := h.1 r z q
      exact ⟨m, List.mem_append_left _ e⟩
    · obtain ⟨m, e⟩ := h'.1 r z q
      exact ⟨m, List.mem_append_right _ e⟩
  · rcases List.mem_append.mp hr with z | z
    · exact List.mem_append_left _ (h.2.1 r z q)
    · exact List.mem_append_right _ (h'.2.1 r z q)
  · rcases List.mem_append.mp hr with z | z
    · obtain ⟨m, e, e2⟩ := h.2.2 r z q q2
      exact ⟨m, List.mem_append_left _ e, e2⟩
    · obtain ⟨m, e, e2⟩ := h'.2.2 r z q q2
      exact ⟨m, List.mem_append_right _ e, e2⟩
theorem PRl_one {r : itm} (h : r.1 ≠ 9 ∧ r.1 ≠ 10 ∧ (r.1 = 11 → s0 9 r.2.2.2.toNat ≠ 271)) : PRl s0 [r] := by
  refine ⟨fun r' hr q => ?_, fun r' hr q => ?_, fun r' hr q q2 => ?_⟩ <;> rw [List.mem_singleton.mp hr] at q
  · exact absurd q h.1
  · exact absurd q h.2.1
  · rw [List.mem_singleton.mp hr] at q2
    exact absurd q2 (h.2.2 q)
/-- a list of items that is fine -/
def ITl (s0 : iS) (lo hi : Nat) (l : List itm) : Prop := (∀ r ∈ l, ITo s0 lo hi r) ∧ PRl s0 l
theorem ITl_app {lo hi : Nat} (h : ITl s0 lo hi l1) (h' : ITl s0 lo hi l2) : ITl s0 lo hi (l1 ++ l2) := ⟨fun r hr => (List.mem_append.mp hr).elim (h.1 r) (h'.1 r), PRl_app h.2 h'.2⟩
theorem ITl_mono {lo hi lo' hi' : Nat} (h : ITl s0 lo hi l) (h1 : lo' ≤ lo) (h2 : hi ≤ hi') : ITl s0 lo' hi' l := ⟨fun r hr => ITo_mono (h.1 r hr) h1 h2, h.2⟩
theorem ITl_pl {lo hi : Nat} {r : itm} (h : 0 ≤ r.1 ∧ r.1 ≤ 20) (h2 : ¬ (r.1 = 3 ∨ r.1 = 4 ∨ r.1 = 13 ∨ r.1 = 9 ∨ r.1 = 10 ∨ r.1 = 11 ∨ r.1 = 17)) (h3 : (r.1 = 0 → -1 ≤ r.2.1 ∧ r.2.1 ≤ 32767) ∧ r.1 ≠ 1 ∧ (r.1 = 6 → r.2.1 ∈ sO) := by simp [sO]) : ITl s0 lo hi [r] := ⟨fun r' hr => by rw [List.mem_singleton.mp hr]; exact ITo_pl h h2 h3, PRl_one ⟨by omega, by omega, fun q => by omega⟩⟩
theorem ITl_nm {lo hi j : Nat} {a b c : Int} (h : a = 3 ∨ (a = 4 ∨ a = 13) ∧ s0 9 j = 3) (h1 : lo ≤ j) (h2 : j < hi) : ITl s0 lo hi [(a, b, c, (j : Int))] := by
  refine ⟨fun r' hr => ?_, PRl_one ⟨?_, ?_, fun q => ?_⟩⟩
  · rw [List.mem_singleton.mp hr]
    refine ⟨?_, fun _ => ⟨j, rfl, h1, h2, fun q => ?_⟩, fun q => ?_, fun q => ?_, fun q => ?_, fun q => ?_, fun q => ?_⟩
    rotate_left 4
    · have q' : a = 0 := q
      omega
    · have q' : a = 1 := q
      omega
    · have q' : a = 6 := q
      omega
    · show 0 ≤ a ∧ a ≤ 20
      omega
    · have q' : a ≠ 3 := q
      rcases h with h | h
      · exact absurd h q'
      · exact h.2
    · have q' : a = 9 ∨ a = 10 := q
      omega
    · have q' : a = 11 ∨ a = 17 := q
      omega
  · show a ≠ 9
    omega
  · show a ≠ 10
    omega
  · have q' : a = 11 := q
    omega
theorem ITl_11 {lo hi j : Nat} {b c : Int} (h : s0 9 j ≠ 271) (h1 : lo ≤ j := by omega) (h2 : j < hi := by omega) : ITl s0 lo hi [(11, b, c, (j : Int))] := by
  refine ⟨fun r' hr => ?_, PRl_one ⟨by simp, by simp, fun _ => h⟩⟩
  rw [List.mem_singleton.mp hr]
  exact ⟨by simp, fun q => by simp at q, fun q => by simp at q, fun _ => ⟨j, rfl, h1, h2⟩, fun q => by simp at q, fun q => by simp at q, fun q => by simp at q⟩
theorem ITl_17 {lo hi j : Nat} {b c : Int} (h1 : lo ≤ j := by omega) (h2 : j < hi := by omega) : ITl s0 lo hi [(17, b, c, (j : Int))] := by
  refine ⟨fun r' hr => ?_, PRl_one ⟨by simp, by simp, fun q => by simp at q⟩⟩
  rw [List.mem_singleton.mp hr]
  exact ⟨by simp, fun q => by simp at q, fun q => by simp at q, fun _ => ⟨j, rfl, h1, h2⟩, fun q => by simp at q, fun q => by simp at q, fun q => by simp at q⟩
theorem ITl_call {lo hi x a : Nat} {f : Int} (h : ITl s0 lo hi l) (hx : lo ≤ x ∧ x < hi ∧ s0 9 x = 3) (hf : f = -1 ∨ ∃ j : Nat, f = (j : Int) ∧ lo ≤ j ∧ j < hi ∧ s0 9 j = 3) (ha : a ≤ hi) : ITl s0 lo hi (((9, f, (x : Int), 0) : itm) :: l ++ [((10, f, (x : Int), (a : Int)) : itm)]) := by
  have m9 : ((9, f, (x : Int), 0) : itm) ∈ ((9, f, (x : Int), 0) : itm) :: l ++ [((10, f, (x : Int), (a : Int)) : itm)] := by simp
  have m10 : ((10, f, (x : Int), (a : Int)) : itm) ∈ ((9, f, (x : Int), 0) : itm) :: l ++ [((10, f, (x : Int), (a : Int)) : itm)] := by simp
  have sp : ∀ r ∈ ((9, f, (x : Int), 0) : itm) :: l ++ [((10, f, (x : Int), (a : Int)) : itm)], r = (9, f, (x : Int), 0) ∨ r ∈ l ∨ r = (10, f, (x : Int), (a : Int)) := fun r hr => by
    simp at hr
    rcases hr with z | z | z
    · exact Or.inl z
    · exact Or.inr (Or.inl z)
    · exact Or.inr (Or.inr z)
  have up : ∀ r ∈ l, r ∈ ((9, f, (x : Int), 0) : itm) :: l ++ [((10, f, (x : Int), (a : Int)) : itm)] := fun r hr => by simp [hr]
  refine ⟨fun r hr => ?_, fun r hr q => ?_, fun r hr q => ?_, fun r hr q q2 => ?_⟩
  · rcases sp r hr with z | z | z
    · rw [z]
      exact ⟨by simp, fun q => by simp at q, fun _ => ⟨⟨x, rfl, hx⟩, hf, fun _ => rfl, fun q => by simp at q⟩, fun q => by simp at q, fun q => by simp at q, fun q => by simp at q, fun q => by simp at q⟩
    · exact h.1 r z
    · rw [z]
      exact ⟨by simp, fun q => by simp at q, fun _ => ⟨⟨x, rfl, hx⟩, hf, fun q => by simp at q, fun _ => ⟨a, rfl, ha⟩⟩, fun q => by simp at q, fun q => by simp at q, fun q => by simp at q, fun q => by simp at q⟩
  · rcases sp r hr with z | z | z
    · rw [z]; exact ⟨(a : Int), m10⟩
    · obtain ⟨m, e⟩ := h.2.1 r z q
      exact ⟨m, up _ e⟩
    · rw [z] at q; simp at q
  · rcases sp r hr with z | z | z
    · rw [z] at q; simp at q
    · exact up _ (h.2.2.1 r z q)
    · rw [z]; exact m9
  · rcases sp r hr with z | z | z
    · rw [z] at q; simp at q
    · obtain ⟨r', e1, e2⟩ := h.2.2.2 r z q q2
      exact ⟨r', up _ e1, e2⟩
    · rw [z] at q; simp at q
theorem GX_it (h : GX s0 g o p w p' w' n l) : p + n ≤ p' ∧ (g ≠ 3 → p < p') ∧ ITl s0 p p' l := by
  refine h (fun g o p w p' w' n l => p + n ≤ p' ∧ (g ≠ 3 → p < p') ∧ ITl s0 p p' l) ⟨?_, ?_, ?_, ?_, ?_, ?_, ?_, ?_, ?_, ?_, ?_, ?_, ?_, ?_, ?_⟩
  · intro o p w v hv
    exact ⟨by omega, fun _ => by omega, ITl_pl (by simp) (by simp) ⟨fun _ => hv, by simp, fun q => by simp at q⟩⟩
  · intro o p w k h5 _
    refine ⟨by omega, fun _ => by omega, fun r hr => ?_, PRl_one ⟨by simp, by simp, fun q => by simp at q⟩⟩
    rw [List.mem_singleton.mp hr]
    exact ⟨by simp, fun q => by simp at q, fun q => by simp at q, fun q => by simp at q, fun q => by simp at q, fun _ => ⟨p, rfl, by omega, by omega, h5⟩, fun q => by simp at q⟩
  · intro o p w
    exact ⟨by omega, fun _ => by omega, ITl_nm (Or.inl rfl) (by omega) (by omega)⟩
  · intro o p w h1
    exact ⟨by omega, fun _ => by omega, ITl_nm (Or.inr ⟨Or.inl rfl, h1⟩) (by omega) (by omega)⟩
  · intro o p w p' w' l h1 ⟨a, b, c⟩
    exact ⟨by omega, fun _ => by omega, ITl_mono c (by omega) (by omega)⟩
  · intro o p w p' w' l a j h1 h2 ⟨x, y, z⟩
    exact ⟨by omega, fun _ => by omega, ITl_app (ITl_mono z (by omega) (by omega)) (ITl_pl (by show 0 ≤ a ∧ a ≤ 20; omega) (by show ¬ (a = 3 ∨ a = 4 ∨ a = 13 ∨ a = 9 ∨ a = 10 ∨ a = 11 ∨ a = 17); omega) ⟨fun q => by have : a = 0 := q; omega, by show a ≠ 1; omega, fun q => by have : a = 6 := q; omega⟩)⟩
  · intro o p w p' w' l j h1 h2 ⟨x, y, z⟩
    refine ⟨by omega, fun _ => by omega, ?_⟩
    exact ITl_app (ITl_app (l1 := [(4, 0, 0, (p : Int))]) (ITl_nm (Or.inr ⟨Or.inl rfl, h1⟩) (by omega) (by omega)) (ITl_mono z (by omega) (by omega))) (ITl_pl (by simp) (by simp))
  · intro o p w p' w' l ⟨x, y, z⟩
    exact ⟨x, fun _ => y (by omega), z⟩
  · intro o p w p' w' l ⟨x, y, z⟩
    exact ⟨x, fun _ => y (by omega), z⟩
  · intro o p w p1 w1 p2 w2 l1 l2 c j ⟨x, y, z⟩ hc ⟨x', y', z'⟩
    have y1 := y (by omega)
    have y2 := y' (by omega)
    exact ⟨by omega, fun _ => by omega, ITl_app (ITl_mono z (by omega) (by omega)) (ITl_app (ITl_mono z' (by omega) (by omega)) (ITl_pl (by simp) (by simp) ⟨fun q => by simp at q, by simp, fun _ => hc⟩))⟩
  · intro o p w p' w' a l h1 h2 ⟨x, y, z⟩
    exact ⟨by omega, fun _ => by omega, ITl_call (ITl_mono z (by omega) (by omega)) ⟨by omega, by omega, h1⟩ (Or.inl rfl) (by omega)⟩
  · intro o p w p' w' a l h1 h2 h3 ⟨x, y, z⟩
    exact ⟨by omega, fun _ => by omega, ITl_call (x := p + 2) (ITl_mono z (by omega) (by omega)) ⟨by omega, by omega, h2⟩ (Or.inr ⟨p, rfl, by omega, by omega, h1⟩) (by omega)⟩
  · intro o p w
    exact ⟨by omega, fun q => absurd rfl q, fun r hr => by simp at hr, PRl_nil⟩
  · intro o p w p' w' l ⟨x, y, z⟩
    have y1 := y (by omega)
    exact ⟨by omega, fun q => absurd rfl q, z⟩
  · intro o p w p1 w1 p2 w2 a l1 l2 ⟨x, y, z⟩ ⟨x', y', z'⟩
    have y2 := y' (by omega)
    exact ⟨by omega, fun q => absurd rfl q, ITl_app (ITl_mono z (by omega) (by omega)) (ITl_mono z' (by omega) (by omega))⟩
end ITs
