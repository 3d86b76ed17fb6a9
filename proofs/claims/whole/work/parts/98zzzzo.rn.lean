/-! the items of a sub: statements, jumps, labels -/
/-- item i jumps to a label; of the list L from item I on, begun with a -/
def JPx (P : Nat → Nat) (ob : Int → Nat) (e0 : itm → Bool) (t : iS) (I : Nat) (a : aS) (L : List itm) (i : Nat) : Prop := ∃ j, j < L.length ∧ t 145 (I + i) = ((I + j : Nat) : Int) ∧ (L.getD j (0, 0, 0, 0)).1 = 20 ∧ (L.getD j (0, 0, 0, 0)).2.1 = (L.getD i (0, 0, 0, 0)).2.2.1 ∧ ((i < j ∧ fdA P ob e0 a (L.take j) = (0, (fdA P ob e0 a (L.take i)).2.1, false, -1)) ∨ ((L.getD i (0, 0, 0, 0)).1 = 16 ∧ j + 1 < i ∧ (L.getD (j + 1) (0, 0, 0, 0)).1 = 17 ∧ (fdA P ob e0 a (L.take (j + 1))).1 = 0 ∧ (fdA P ob e0 a (L.take (j + 1))).2.1 = (fdA P ob e0 a (L.take i)).2.1))
abbrev jmp (r : itm) : Prop := r.1 = 15 ∨ r.1 = 16
def JP (P : Nat → Nat) (ob : Int → Nat) (e0 : itm → Bool) (t : iS) (I : Nat) (a : aS) (L : List itm) : Prop := ∀ i, i < L.length → jmp (L.getD i (0, 0, 0, 0)) → JPx P ob e0 t I a L i
/-- the labels -/
def labs (l : List itm) : List Int := (l.filter (fun r => decide (r.1 = 20))).map (fun r => r.2.1)
def LBo (l : List itm) (lb lb' : Nat) : Prop := lb ≤ lb' ∧ (labs l).Nodup ∧ ∀ x ∈ labs l, (lb : Int) ≤ x ∧ x < (lb' : Int)
section RNb
variable {s0 t : iS} {P : Nat → Nat} {ob : Int → Nat} {e0 : itm → Bool} {H I : Nat} {a : aS} {X l l1 l2 Y : List itm} {r : itm} {lb lb' lb2 : Nat}
theorem labs_app : labs (l1 ++ l2) = labs l1 ++ labs l2 := by
  unfold labs
  rw [List.filter_append, List.map_append]
theorem labs_no (h : ∀ r ∈ l, r.1 ≠ 20) : labs l = [] := by
  unfold labs
  rw [List.filter_eq_nil_iff.mpr (fun r hr => by simp [h r hr])]
  rfl
theorem LBo_no (h : ∀ r ∈ l, r.1 ≠ 20) : LBo l lb lb := by
  refine ⟨Nat.le_refl _, ?_, ?_⟩ <;> rw [labs_no h]
  · exact List.nodup_nil
  · intro x hx; simp at hx
theorem LBo_app (h1 : LBo l1 lb lb') (h2 : LBo l2 lb' lb2) : LBo (l1 ++ l2) lb lb2 := by
  obtain ⟨a1, a2, a3⟩ := h1
  obtain ⟨b1, b2, b3⟩ := h2
  refine ⟨by omega, ?_, ?_⟩ <;> rw [labs_app]
  · rw [List.nodup_append]
    refine ⟨a2, b2, fun x hx y hy e => ?_⟩
    have := a3 x hx
    have := b3 y hy
    omega
  · intro x hx
    rcases List.mem_append.mp hx with z | z
    · have := a3 x z; omega
    · have := b3 x z; omega
/-- a label more -/
theorem LBo_lab {x : Nat} {b c : Int} (h : LBo l lb lb') (hx : x < lb ∧ lb2 ≤ x) : LBo (l ++ [(20, (x : Int), b, c)]) lb2 lb' := by
  obtain ⟨a1, a2, a3⟩ := h
  have e : labs [((20, (x : Int), b, c) : itm)] = [(x : Int)] := by simp [labs]
  refine ⟨by omega, ?_, ?_⟩ <;> rw [labs_app, e]
  · rw [List.nodup_append]
    refine ⟨a2, by simp, fun y hy z hz q => ?_⟩
    have := a3 y hy
    simp at hz
    omega
  · intro y hy
    rcases List.mem_append.mp hy with z | z
    · have := a3 y z; omega
    · simp at z; omega
theorem LBo_pre {x : Nat} {b c : Int} (h : LBo l lb lb') (hx : x < lb ∧ lb2 ≤ x) : LBo ((20, (x : Int), b, c) :: l) lb2 lb' := by
  obtain ⟨a1, a2, a3⟩ := h
  have e : labs (((20, (x : Int), b, c) : itm) :: l) = (x : Int) :: labs l := by simp [labs]
  refine ⟨by omega, ?_, ?_⟩ <;> rw [e]
  · rw [List.nodup_cons]
    exact ⟨fun q => by have := a3 _ q; omega, a2⟩
  · intro y hy
    rcases List.mem_cons.mp hy with z | z
    · omega
    · have := a3 y z; omega
theorem LBo_skp (h1 : ∀ r ∈ X, r.1 ≠ 20) (h : LBo l lb lb') (h2 : ∀ r ∈ Y, r.1 ≠ 20) : LBo (X ++ l ++ Y) lb lb' := by
  unfold LBo at h ⊢
  rw [labs_app, labs_app, labs_no h1, labs_no h2, List.nil_append, List.append_nil]
  exact h
theorem GX_k {g o p w p' w' n : Nat} (h : GX s0 g o p w p' w' n l) : ∀ r ∈ l, 0 ≤ r.1 ∧ r.1 ≤ 10 := by
  refine h (fun g o p w p' w' n l => ∀ r ∈ l, 0 ≤ r.1 ∧ r.1 ≤ 10) ⟨?_, ?_, ?_, ?_, ?_, ?_, ?_, ?_, ?_, ?_, ?_, ?_, ?_, ?_, ?_⟩
  · intro o p w v _ r hr; rw [List.mem_singleton.mp hr]; simp
  · intro o p w k _ _ r hr; rw [List.mem_singleton.mp hr]; simp
  · intro o p w r hr; rw [List.mem_singleton.mp hr]; simp
  · intro o p w _ r hr; rw [List.mem_singleton.mp hr]; simp
  · intro o p w p' w' l _ ih; exact ih
  · intro o p w p' w' l a j _ ha ih r hr
    rcases List.mem_append.mp hr with z | z
    · exact ih r z
    · rw [List.mem_singleton.mp z]; show 0 ≤ a ∧ a ≤ 10; omega
  · intro o p w p' w' l j _ _ ih r hr
    simp at hr
    rcases hr with z | z | z
    · rw [z]; simp
    · exact ih r z
    · rw [z]; simp
  · intro o p w p' w' l ih; exact ih
  · intro o p w p' w' l ih; exact ih
  · intro o p w p1 w1 p2 w2 l1 l2 c j ih1 _ ih2 r hr
    simp at hr
    rcases hr with z | z | z
    · exact ih1 r z
    · exact ih2 r z
    · rw [z]; simp
  · intro o p w p' w' a l _ _ ih r hr
    simp at hr
    rcases hr with z | z | z
    · rw [z]; simp
    · exact ih r z
    · rw [z]; simp
  · intro o p w p' w' a l _ _ _ ih r hr
    simp at hr
    rcases hr with z | z | z
    · rw [z]; simp
    · exact ih r z
    · rw [z]; simp
  · intro o p w r hr; simp at hr
  · intro o p w p' w' l ih; exact ih
  · intro o p w p1 w1 p2 w2 a l1 l2 ih1 ih2 r hr
    rcases List.mem_append.mp hr with z | z
    · exact ih1 r z
    · exact ih2 r z
theorem gm {L : List itm} {i : Nat} (h : i < L.length) : L.getD i (0, 0, 0, 0) ∈ L := by
  rw [List.getD_eq_getElem?_getD, List.getElem?_eq_getElem h]
  exact List.getElem_mem h
theorem JP_no (h : ∀ r ∈ l, ¬ jmp r) : JP P ob e0 t I a l := fun i hi hj => absurd hj (h _ (gm hi))
/-- a jump within a part -/
theorem JPx_in {i : Nat} (hi : i < l.length) (h : JPx P ob e0 t (I + X.length) (fdA P ob e0 a X) l i) : JPx P ob e0 t I a (X ++ l ++ Y) (X.length + i) := by
  obtain ⟨j, h1, h2, h3, h4, h5⟩ := h
  have g : ∀ k, k < l.length → (X ++ l ++ Y).getD (X.length + k) (0, 0, 0, 0) = l.getD k (0, 0, 0, 0) := fun k hk => by
    rw [gdL (by rw [List.length_append]; omega), gdR (by omega), show X.length + k - X.length = k by omega]
  have tk : ∀ k, k ≤ l.length → fdA P ob e0 a ((X ++ l ++ Y).take (X.length + k)) = fdA P ob e0 (fdA P ob e0 a X) (l.take k) := fun k hk => by
    rw [List.append_assoc, List.take_length_add_append, List.take_append_of_le_length hk, fdA_app]
  refine ⟨X.length + j, by rw [List.length_append, List.length_append]; omega, by rw [show I + (X.length + i) = I + X.length + i by omega, h2]; omega, by rw [g j h1]; exact h3, by rw [g j h1, g i hi]; exact h4, ?_⟩
  rcases h5 with ⟨q1, q2⟩ | ⟨q1, q2, q3, q4, q5⟩
  · exact Or.inl ⟨by omega, by rw [tk j (by omega), tk i (by omega)]; exact q2⟩
  · exact Or.inr ⟨by rw [g i hi]; exact q1, by omega, by rw [Nat.add_assoc, g (j + 1) (by omega)]; exact q3, by rw [Nat.add_assoc, tk (j + 1) (by omega)]; exact q4, by rw [Nat.add_assoc, tk (j + 1) (by omega), tk i (by omega)]; exact q5⟩
theorem JP_app (h1 : JP P ob e0 t I a l1) (h2 : JP P ob e0 t (I + l1.length) (fdA P ob e0 a l1) l2) : JP P ob e0 t I a (l1 ++ l2) := by
  intro i hi hj
  rw [List.length_append] at hi
  by_cases c : i < l1.length
  · rw [gdL c] at hj
    have q := JPx_in (X := []) (Y := l2) (I := I) (a := a) c (by simpa [fdA] using h1 i c hj)
    simpa using q
  · rw [gdR (by omega)] at hj
    have q := JPx_in (X := l1) (Y := []) (I := I) (a := a) (show i - l1.length < l2.length by omega) (h2 _ (by omega) hj)
    rw [List.append_nil, show l1.length + (i - l1.length) = i by omega] at q
    exact q
/-- parts of which only the middle one jumps, and the last item of the first -/
theorem JP_mid (hX : ∀ i, i < X.length → jmp (X.getD i (0, 0, 0, 0)) → JPx P ob e0 t I a (X ++ l ++ Y) i) (hl : JP P ob e0 t (I + X.length) (fdA P ob e0 a X) l) (hY : ∀ i, i < Y.length → jmp (Y.getD i (0, 0, 0, 0)) → JPx P ob e0 t I a (X ++ l ++ Y) (X.length + l.length + i)) : JP P ob e0 t I a (X ++ l ++ Y) := by
  intro i hi hj
  rw [List.length_append, List.length_append] at hi
  by_cases c : i < X.length
  · rw [gdL (by rw [List.length_append]; omega), gdL c] at hj
    exact hX i c hj
  · by_cases c2 : i < X.length + l.length
    · rw [gdL (by rw [List.length_append]; omega), gdR (by omega)] at hj
      have q := JPx_in (X := X) (Y := Y) (I := I) (a := a) (show i - X.length < l.length by omega) (hl _ (by omega) hj)
      rw [show X.length + (i - X.length) = i by omega] at q
      exact q
    · rw [gdR (by rw [List.length_append]; omega), List.length_append] at hj
      have q := hY (i - (X.length + l.length)) (by omega) hj
      rw [show X.length + l.length + (i - (X.length + l.length)) = i by omega] at q
      exact q
end RNb
