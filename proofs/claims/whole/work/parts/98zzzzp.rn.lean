/-! the items of a sub: the statements' induction -/
section RNc
variable {s0 t : iS} {P : Nat → Nat} {ob : Int → Nat} {e0 : itm → Bool} {H I : Nat} {a : aS} {X l l1 l2 l3 Y : List itm} {r : itm} {lb lb' lb2 : Nat} {ws : List Nat} {fr : Bool} {hh p : Nat} {pm : Int}
/-- a jump to the label that follows X -/
theorem JPf {i : Nat} (hi : i < X.length) (ht : t 145 (I + i) = ((I + X.length : Nat) : Int)) (hy : (Y.getD 0 (0, 0, 0, 0)).1 = 20) (hy2 : (Y.getD 0 (0, 0, 0, 0)).2.1 = (X.getD i (0, 0, 0, 0)).2.2.1) (hYl : 0 < Y.length) (hf : fdA P ob e0 a X = (0, (fdA P ob e0 a (X.take i)).2.1, false, -1)) : JPx P ob e0 t I a (X ++ Y) i := by
  have g0 : (X ++ Y).getD X.length (0, 0, 0, 0) = Y.getD 0 (0, 0, 0, 0) := by rw [gdR (Nat.le_refl _), Nat.sub_self]
  refine ⟨X.length, by rw [List.length_append]; omega, ht, by rw [g0]; exact hy, by rw [g0, gdL hi]; exact hy2, Or.inl ⟨hi, ?_⟩⟩
  rw [List.take_left', List.take_append_of_le_length (by omega)]
  · exact hf
  · rfl
/-- single items -/
theorem n11 : nxA P ob e0 (hh, ws, fr, pm) (11, 0, 0, (p : Int)) = (hh, p :: ws, true, (P p : Int)) := by simp [nxA]
theorem n12 {j : Int} : nxA P ob e0 (hh, p :: ws, fr, -1) (12, 0, 0, j) = (hh, ws, false, -1) := by simp [nxA]
theorem n17 : nxA P ob e0 (hh, ws, fr, pm) (17, 0, 0, (p : Int)) = (hh, ws, true, (P p : Int)) := by simp [nxA]
theorem n20 {x b c : Int} (h : EVa e0 (20, x, b, c)) : nxA P ob e0 (hh, ws, fr, pm) (20, x, b, c) = (hh, ws, false, -1) := by
  have := h.1 (by simp) (by simp) (by simp) (by simp)
  simp [nxA, this]
theorem n15 {x b c : Int} (h : EVa e0 (15, x, b, c)) : nxA P ob e0 (1, ws, fr, pm) (15, x, b, c) = (0, ws, false, -1) := by
  have := h.1 (by simp) (by simp) (by simp) (by simp)
  simp [nxA, this]
theorem n16 {x b c : Int} (h : EVa e0 (16, x, b, c)) : nxA P ob e0 (0, ws, fr, pm) (16, x, b, c) = (0, ws, false, -1) := by
  have := h.1 (by simp) (by simp) (by simp) (by simp)
  simp [nxA, this]
theorem r11 (h : ws.length < 30) (hH : 354 < H) : rqA ob H (0, ws, fr, -1) (11, 0, 0, (p : Int)) := by
  have : 0 < H := by omega
  simp [rqA, h, this]
theorem r12 {j : Int} (h : ws.length + 1 < 30) (hH : 354 < H) : rqA ob H (0, p :: ws, fr, -1) (12, 0, 0, j) := by
  have : 0 < H := by omega
  simp [rqA, this]
  omega
theorem r20 {x b c : Int} (h : ws.length < 30) (hH : 354 < H) : rqA ob H (0, ws, fr, pm) (20, x, b, c) := by
  have : 0 < H := by omega
  simp [rqA, h, this]
theorem r15 {x b c : Int} (h : ws.length < 30) (hH : 354 < H) : rqA ob H (1, ws, fr, pm) (15, x, b, c) := by
  have : 1 < H := by omega
  simp [rqA, h, this]
theorem r16 {x b c : Int} (h : ws.length < 30) (hH : 354 < H) : rqA ob H (0, ws, fr, pm) (16, x, b, c) := by
  have : 0 < H := by omega
  simp [rqA, h, this]
theorem r17 (h : ws.length + 1 < 30) (hH : 354 < H) : rqA ob H (0, p :: ws, fr, -1) (17, 0, 0, (p : Int)) := by
  have : 0 < H := by omega
  simp [rqA, this]
  omega
/-- a statement's beginning, and its first expression -/
theorem x_an (hob : ∀ x, ob x ≤ 1) (hH : 354 < H) {g o pp w p' w' : Nat} (hg : g = 1 ∨ g = 2) (h : GX s0 g o pp w p' w' 0 l) (he : ∀ r ∈ l, EVa e0 r) (hc : ws.length + 1 < 30) : okA P ob e0 H (0, ws, fr, -1) ((11, 0, 0, (p : Int)) :: l) ∧ fdA P ob e0 (0, ws, fr, -1) ((11, 0, 0, (p : Int)) :: l) = (1, p :: ws, true, -1) := by
  obtain ⟨i1, i2, i3⟩ := GX_an (P := P) (H := H) (e0 := e0) hob h he 0 (p :: ws) (P p : Int) (by unfold bnd; rcases hg with q | q <;> subst q <;> simp <;> omega) (by simpa using hc)
  have l0 := i3 (by omega)
  rw [if_neg (by omega), if_neg l0] at i2
  refine ⟨⟨r11 (by omega) hH, by rw [n11]; exact i1⟩, ?_⟩
  rw [fdA_cons, n11, i2]
/-- an expression behind -/
theorem y_an (hob : ∀ x, ob x ≤ 1) (hH : 354 < H) {o pp w p' w' : Nat} (h : GX s0 1 o pp w p' w' 0 l) (he : ∀ r ∈ l, EVa e0 r) (hc : ws.length < 30) (h1 : hh ≤ 1) : okA P ob e0 H (hh, ws, true, pm) l ∧ fdA P ob e0 (hh, ws, true, pm) l = (hh + 1, ws, true, -1) := by
  obtain ⟨i1, i2, i3⟩ := GX_an (P := P) (H := H) (e0 := e0) hob h he hh ws pm (by unfold bnd; simp; omega) hc
  have l0 := i3 (by decide)
  rw [if_neg (by decide), if_neg l0] at i2
  exact ⟨i1, i2⟩
theorem no_k {Z : List itm} (h : ∀ r ∈ Z, 0 ≤ r.1 ∧ r.1 ≤ 10) : (∀ r ∈ Z, ¬ jmp r) ∧ ∀ r ∈ Z, r.1 ≠ 20 := ⟨fun r hr q => by have := h r hr; unfold jmp at q; omega, fun r hr => by have := h r hr; omega⟩
theorem olast {Z : List itm} (hZ : ∀ r ∈ Z, ¬ jmp r) {i : Nat} (hi : i < (Z ++ [r]).length) (hj : jmp ((Z ++ [r]).getD i (0, 0, 0, 0))) : i = Z.length := by
  rw [List.length_append, List.length_singleton] at hi
  by_cases c : i < Z.length
  · rw [gdL c] at hj
    exact absurd hj (hZ _ (gm c))
  · omega
theorem gat {Z W : List itm} : (Z ++ [r] ++ W).getD Z.length (0, 0, 0, 0) = r := by
  rw [gdL (by simp), gdR (Nat.le_refl _), Nat.sub_self]
  rfl
theorem tat {Z W : List itm} : (Z ++ [r] ++ W).take Z.length = Z := by
  rw [List.append_assoc, List.take_left']
  rfl
theorem nj11 (h : ∀ r ∈ l, 0 ≤ r.1 ∧ r.1 ≤ 10) {b c d : Int} : (∀ r ∈ ((11, b, c, d) :: l : List itm), ¬ jmp r) ∧ ∀ r ∈ ((11, b, c, d) :: l : List itm), r.1 ≠ 20 := by
  refine ⟨fun r hr => ?_, fun r hr => ?_⟩
  · rcases List.mem_cons.mp hr with z | z
    · rw [z]; simp
    · exact (no_k h).1 r z
  · rcases List.mem_cons.mp hr with z | z
    · rw [z]; simp
    · exact (no_k h).2 r z
theorem GY_an (hob : ∀ x, ob x ≤ 1) (hH : 354 < H) {g o p w lb p' w' lb' : Nat} (h : GY s0 t g o I p w lb p' w' lb' l) : (∀ r ∈ l, EVa e0 r) → LBo l lb lb' ∧ ∀ (ws : List Nat) (fr : Bool), ws.length + 1 + (26 - o) < 30 → okA P ob e0 H (0, ws, fr, -1) l ∧ (∃ fr', fdA P ob e0 (0, ws, fr, -1) l = (0, ws, fr', -1) ∧ (g = 0 ∨ fr = false → fr' = false)) ∧ JP P ob e0 t I (0, ws, fr, -1) l := by
  refine h (fun g o I p w lb p' w' lb' l => (∀ r ∈ l, EVa e0 r) → LBo l lb lb' ∧ ∀ (ws : List Nat) (fr : Bool), ws.length + 1 + (26 - o) < 30 → okA P ob e0 H (0, ws, fr, -1) l ∧ (∃ fr', fdA P ob e0 (0, ws, fr, -1) l = (0, ws, fr', -1) ∧ (g = 0 ∨ fr = false → fr' = false)) ∧ JP P ob e0 t I (0, ws, fr, -1) l) ⟨?_, ?_, ?_, ?_, ?_, ?_, ?_, ?_, ?_, ?_⟩
  · -- let
    intro o I p w lb p' w' l j _ _ h3 he
    have ek := GX_k h3
    have e13 := (he (13, 0, 0, ((p + 1 : Nat) : Int)) (by simp)).1 (by simp) (by simp) (by simp) (by simp)
    have kk : ∀ r ∈ ([(11, 0, 0, (p : Int))] ++ (l ++ [(13, 0, 0, ((p + 1 : Nat) : Int)), (12, 0, 0, j)]) : List itm), ¬ jmp r ∧ r.1 ≠ 20 := fun r hr => by
      simp at hr
      rcases hr with z | z | z | z
      · rw [z]; simp
      · exact ⟨(no_k ek).1 r z, (no_k ek).2 r z⟩
      · rw [z]; simp
      · rw [z]; simp
    refine ⟨LBo_no (fun r hr => (kk r hr).2), fun ws fr hc => ?_⟩
    obtain ⟨i1, i2⟩ := x_an (P := P) (p := p) (fr := fr) (ws := ws) hob hH (Or.inl rfl) h3 (fun r hr => he r (by simp [hr])) (by omega)
    have e13' : nxA P ob e0 (1, p :: ws, true, -1) (13, 0, 0, ((p + 1 : Nat) : Int)) = (0, p :: ws, true, -1) := by simp [nxA]
    refine ⟨?_, ⟨false, ?_, fun _ => rfl⟩, JP_no (fun r hr => (kk r hr).1)⟩
    · show okA P ob e0 H _ (((11, 0, 0, (p : Int)) :: l) ++ [(13, 0, 0, ((p + 1 : Nat) : Int)), (12, 0, 0, j)])
      refine (okA_app _ _).mpr ⟨i1, ?_⟩
      rw [i2]
      refine ⟨by have : 1 < H := by omega
                 simp [rqA, this]; omega, ?_⟩
      rw [e13']
      exact okA_one (r12 (by omega) hH)
    · show fdA P ob e0 _ (((11, 0, 0, (p : Int)) :: l) ++ [(13, 0, 0, ((p + 1 : Nat) : Int)), (12, 0, 0, j)]) = _
      rw [fdA_app, i2, fdA_cons, e13', fdA_cons, n12]
      rfl
  · -- let, with an index
    intro o I p w lb p1 w1 p2 w2 l1 l2 j j1 j2 _ _ h3 h4 he
    have ek := GX_k h3
    have ek2 := GX_k h4
    have kk : ∀ r ∈ ([(11, 0, 0, (p : Int))] ++ ([(4, 0, 0, ((p + 1 : Nat) : Int))] ++ (l1 ++ ([(6, 43, 0, j)] ++ (l2 ++ [(14, 0, 0, j1), (12, 0, 0, j2)])))) : List itm), ¬ jmp r ∧ r.1 ≠ 20 := fun r hr => by
      simp at hr
      rcases hr with z | z | z | z | z | z | z
      · rw [z]; simp
      · rw [z]; simp
      · exact ⟨(no_k ek).1 r z, (no_k ek).2 r z⟩
      · rw [z]; simp
      · exact ⟨(no_k ek2).1 r z, (no_k ek2).2 r z⟩
      · rw [z]; simp
      · rw [z]; simp
    have e4 := (he (4, 0, 0, ((p + 1 : Nat) : Int)) (by simp)).1 (by simp) (by simp) (by simp) (by simp)
    have e6 := (he (6, 43, 0, j) (by simp)).1 (by simp) (by simp) (by simp) (by simp)
    have e14 := (he (14, 0, 0, j1) (by simp)).1 (by simp) (by simp) (by simp) (by simp)
    refine ⟨LBo_no (fun r hr => (kk r hr).2), fun ws fr hc => ?_⟩
    have hp1 : (p :: ws).length < 30 := by rw [List.length_cons]; omega
    obtain ⟨i1, i2⟩ := y_an (P := P) (ws := p :: ws) (hh := 1) (pm := -1) hob hH h3 (fun r hr => he r (by simp [hr])) hp1 (by omega)
    obtain ⟨k1, k2⟩ := y_an (P := P) (ws := p :: ws) (hh := 1) (pm := -1) hob hH h4 (fun r hr => he r (by simp [hr])) hp1 (by omega)
    have n4 : nxA P ob e0 (0, p :: ws, true, (P p : Int)) (4, 0, 0, ((p + 1 : Nat) : Int)) = (1, p :: ws, true, -1) := by simp [nxA]; simpa using e4
    have n6 : nxA P ob e0 (1 + 1, p :: ws, true, -1) (6, 43, 0, j) = (1, p :: ws, true, -1) := by simp [nxA]
    have n14 : nxA P ob e0 (1 + 1, p :: ws, true, -1) (14, 0, 0, j1) = (0, p :: ws, true, -1) := by simp [nxA]
    have b0 : 0 < H := by omega
    have b2 : 1 + 1 < H := by omega
    refine ⟨?_, ⟨false, ?_, fun _ => rfl⟩, JP_no (fun r hr => (kk r hr).1)⟩
    · refine ⟨r11 (by omega) hH, ?_⟩
      rw [n11]
      refine ⟨by simp [rqA, b0]; omega, ?_⟩
      rw [n4]
      refine (okA_app l1 _).mpr ⟨i1, ?_⟩
      rw [i2]
      refine ⟨by simp [rqA, b2]; omega, ?_⟩
      rw [n6]
      refine (okA_app l2 _).mpr ⟨k1, ?_⟩
      rw [k2]
      refine ⟨by simp [rqA, b2]; omega, ?_⟩
      rw [n14]
      exact okA_one (r12 (by omega) hH)
    · show fdA P ob e0 _ ((11, 0, 0, (p : Int)) :: (4, 0, 0, ((p + 1 : Nat) : Int)) :: (l1 ++ ((6, 43, 0, j) :: (l2 ++ [(14, 0, 0, j1), (12, 0, 0, j2)])))) = _
      rw [fdA_cons, n11, fdA_cons, n4, fdA_app, i2, fdA_cons, n6, fdA_app, k2, fdA_cons, n14, fdA_cons, n12]
      rfl
  · -- do
    intro o I p w lb p' w' l j1 j2 _ h2 he
    have ek := GX_k h2
    have kk : ∀ r ∈ ([(11, 0, 0, (p : Int))] ++ (l ++ ([(19, 0, 0, j1)] ++ [(12, 0, 0, j2)])) : List itm), ¬ jmp r ∧ r.1 ≠ 20 := fun r hr => by
      simp at hr
      rcases hr with z | z | z | z
      · rw [z]; simp
      · exact ⟨(no_k ek).1 r z, (no_k ek).2 r z⟩
      · rw [z]; simp
      · rw [z]; simp
    refine ⟨LBo_no (fun r hr => (kk r hr).2), fun ws fr hc => ?_⟩
    obtain ⟨i1, i2⟩ := x_an (P := P) (p := p) (fr := fr) (ws := ws) hob hH (Or.inr rfl) h2 (fun r hr => he r (by simp [hr])) (by omega)
    have n19 : nxA P ob e0 (1, p :: ws, true, -1) (19, 0, 0, j1) = (0, p :: ws, true, -1) := by simp [nxA]
    refine ⟨?_, ⟨false, ?_, fun _ => rfl⟩, JP_no (fun r hr => (kk r hr).1)⟩
    · show okA P ob e0 H _ (((11, 0, 0, (p : Int)) :: l) ++ [(19, 0, 0, j1), (12, 0, 0, j2)])
      refine (okA_app _ _).mpr ⟨i1, ?_⟩
      rw [i2]
      refine ⟨by have : 1 < H := by omega
                 simp [rqA, this]; omega, ?_⟩
      rw [n19]
      exact okA_one (r12 (by omega) hH)
    · show fdA P ob e0 _ (((11, 0, 0, (p : Int)) :: l) ++ [(19, 0, 0, j1), (12, 0, 0, j2)]) = _
      rw [fdA_app, i2, fdA_cons, n19, fdA_cons, n12]
      rfl
  · -- return
    intro o I p w lb j1 j2 _ he
    have e0' := (he (0, 0, 0, j1) (by simp)).1 (by simp) (by simp) (by simp) (by simp)
    have e18 := (he (18, 0, 0, j2) (by simp)).1 (by simp) (by simp) (by simp) (by simp)
    have kk : ∀ r ∈ ([(11, 0, 0, (p : Int))] ++ ([(0, 0, 0, j1)] ++ [(18, 0, 0, j2)]) : List itm), ¬ jmp r ∧ r.1 ≠ 20 := fun r hr => by
      simp at hr
      rcases hr with z | z | z <;> rw [z] <;> simp
    refine ⟨LBo_no (fun r hr => (kk r hr).2), fun ws fr hc => ?_⟩
    have n0 : nxA P ob e0 (0, p :: ws, true, (P p : Int)) (0, 0, 0, j1) = (1, p :: ws, true, -1) := by simp [nxA, e0']
    have n18 : nxA P ob e0 (1, p :: ws, true, -1) (18, 0, 0, j2) = (0, ws, false, -1) := by simp [nxA]
    have b0 : 0 < H := by omega
    have b1 : 1 < H := by omega
    refine ⟨?_, ⟨false, ?_, fun _ => rfl⟩, JP_no (fun r hr => (kk r hr).1)⟩
    · refine ⟨r11 (by omega) hH, ?_⟩
      rw [n11]
      refine ⟨by simp [rqA, b0]; omega, ?_⟩
      rw [n0]
      exact okA_one (by simp [rqA, b1]; omega)
    · show fdA P ob e0 _ [(11, 0, 0, (p : Int)), (0, 0, 0, j1), (18, 0, 0, j2)] = _
      rw [fdA_cons, n11, fdA_cons, n0, fdA_cons, n18]
      rfl
  · -- return with a value
    intro o I p w lb p' w' l j _ h2 he
    have ek := GX_k h2
    have kk : ∀ r ∈ ([(11, 0, 0, (p : Int))] ++ (l ++ [(18, 0, 0, j)]) : List itm), ¬ jmp r ∧ r.1 ≠ 20 := fun r hr => by
      simp at hr
      rcases hr with z | z | z
      · rw [z]; simp
      · exact ⟨(no_k ek).1 r z, (no_k ek).2 r z⟩
      · rw [z]; simp
    refine ⟨LBo_no (fun r hr => (kk r hr).2), fun ws fr hc => ?_⟩
    obtain ⟨i1, i2⟩ := x_an (P := P) (p := p) (fr := fr) (ws := ws) hob hH (Or.inl rfl) h2 (fun r hr => he r (by simp [hr])) (by omega)
    have n18 : nxA P ob e0 (1, p :: ws, true, -1) (18, 0, 0, j) = (0, ws, false, -1) := by simp [nxA]
    have b1 : 1 < H := by omega
    refine ⟨?_, ⟨false, ?_, fun _ => rfl⟩, JP_no (fun r hr => (kk r hr).1)⟩
    · show okA P ob e0 H _ (((11, 0, 0, (p : Int)) :: l) ++ [(18, 0, 0, j)])
      refine (okA_app _ _).mpr ⟨i1, ?_⟩
      rw [i2]
      exact okA_one (by simp [rqA, b1]; omega)
    · show fdA P ob e0 _ (((11, 0, 0, (p : Int)) :: l) ++ [(18, 0, 0, j)]) = _
      rw [fdA_app, i2, fdA_cons, n18]
      rfl
  · -- if
    intro o I p w lb p1 w1 p2 w2 lb2 l1 l2 j0 j1 j2 hpo h2 ih hj he
    have ek := GX_k h2
    have e15 := he (15, 0, (lb : Int), j0) (by simp)
    have e20 := he (20, (lb : Int), 0, j1) (by simp)
    obtain ⟨a1, a2⟩ := ih (fun r hr => he r (by simp [hr]))
    obtain ⟨nj, nl⟩ := nj11 (b := 0) (c := 0) (d := (p : Int)) ek
    have eL : ([(11, 0, 0, (p : Int))] ++ l1 ++ [(15, 0, (lb : Int), j0)] ++ l2 ++ [(20, (lb : Int), 0, j1)] ++ [(12, 0, 0, j2)] : List itm) = ((((11, 0, 0, (p : Int)) :: l1) ++ [(15, 0, (lb : Int), j0)]) ++ l2) ++ [(20, (lb : Int), 0, j1), (12, 0, 0, j2)] := by simp
    rw [eL]
    have nlX : ∀ r ∈ (((11, 0, 0, (p : Int)) :: l1) ++ [(15, 0, (lb : Int), j0)] : List itm), r.1 ≠ 20 := fun r hr => by
      rcases List.mem_append.mp hr with z | z
      · exact nl r z
      · rw [List.mem_singleton.mp z]; simp
    refine ⟨?_, fun ws fr hc => ?_⟩
    · have q := LBo_lab (x := lb) (b := 0) (c := j1) (lb2 := lb) (LBo_skp (Y := []) nlX a1 (fun r hr => by simp at hr)) ⟨by omega, Nat.le_refl _⟩
      have q2 := LBo_skp (X := []) (Y := [(12, 0, 0, j2)]) (fun r hr => by simp at hr) q (fun r hr => by rw [List.mem_singleton.mp hr]; simp)
      simpa using q2
    · obtain ⟨i1, i2⟩ := x_an (P := P) (p := p) (fr := fr) (ws := ws) hob hH (Or.inl rfl) h2 (fun r hr => he r (by simp [hr])) (by omega)
      have f1 : fdA P ob e0 (0, ws, fr, -1) (((11, 0, 0, (p : Int)) :: l1) ++ [(15, 0, (lb : Int), j0)]) = (0, p :: ws, false, -1) := by rw [fdA_app, i2, fdA_cons, n15 e15]; rfl
      have hp1 : (p :: ws).length < 30 := by rw [List.length_cons]; omega
      obtain ⟨c1, ⟨fr', c2, c3⟩, c4⟩ := a2 (p :: ws) false (by rw [List.length_cons]; omega)
      have c5 := c3 (Or.inr rfl)
      subst c5
      have f2 : fdA P ob e0 (0, ws, fr, -1) ((((11, 0, 0, (p : Int)) :: l1) ++ [(15, 0, (lb : Int), j0)]) ++ l2) = (0, p :: ws, false, -1) := by rw [fdA_app, f1, c2]
      refine ⟨?_, ⟨false, ?_, fun _ => rfl⟩, ?_⟩
      · exact (okA_app _ _).mpr ⟨(okA_app _ _).mpr ⟨(okA_app _ _).mpr ⟨i1, by rw [i2]; exact okA_one (r15 hp1 hH)⟩, by rw [f1]; exact c1⟩, by rw [f2]; exact ⟨r20 hp1 hH, by rw [n20 e20]; exact okA_one (r12 (by omega) hH)⟩⟩
      · rw [fdA_app, f2, fdA_cons, n20 e20, fdA_cons, n12]
        rfl
      · refine JP_mid (fun i hi hj' => ?_) (by rw [f1, show I + ((((11, 0, 0, (p : Int)) :: l1) ++ [(15, 0, (lb : Int), j0)] : List itm)).length = I + l1.length + 2 by simp; omega]; exact c4) (fun i hi hj' => ?_)
        · have ei := olast nj hi hj'
          subst ei
          refine JPf (by simp <;> omega) ?_ rfl (by rw [gat]; rfl) (by simp) (by rw [f2, tat, i2])
          rw [show I + ((11, 0, 0, (p : Int)) :: l1 : List itm).length = I + l1.length + 1 by simp; omega, hj]
          simp
          omega
        · exfalso
          have : i = 0 ∨ i = 1 := by simp at hi; omega
          rcases this with q | q <;> subst q <;> simp [jmp] at hj'
  · -- if, else
    intro o I p w lb p1 w1 p2 w2 lb2 p3 w3 lb3 l1 l2 l3 j0 j1 j2 j3 j4 hpo h2 ih1 ih2 hj hk he
    have ek := GX_k h2
    have e15 := he (15, 0, (lb : Int), j0) (by simp)
    have e16 := he (16, 0, ((lb + 1 : Nat) : Int), j1) (by simp)
    have e20 := he (20, (lb : Int), 0, j2) (by simp)
    have e21 := he (20, ((lb + 1 : Nat) : Int), 0, j3) (by simp)
    obtain ⟨a1, a2⟩ := ih1 (fun r hr => he r (by simp [hr]))
    obtain ⟨b1, b2⟩ := ih2 (fun r hr => he r (by simp [hr]))
    obtain ⟨nj, nl⟩ := nj11 (b := 0) (c := 0) (d := (p : Int)) ek
    have eL : ([(11, 0, 0, (p : Int))] ++ l1 ++ [(15, 0, (lb : Int), j0)] ++ l2 ++ [(16, 0, ((lb + 1 : Nat) : Int), j1)] ++ [(20, (lb : Int), 0, j2)] ++ l3 ++ [(20, ((lb + 1 : Nat) : Int), 0, j3)] ++ [(12, 0, 0, j4)] : List itm) = ((((11, 0, 0, (p : Int)) :: l1) ++ [(15, 0, (lb : Int), j0)]) ++ l2) ++ ([(16, 0, ((lb + 1 : Nat) : Int), j1), (20, (lb : Int), 0, j2)] ++ l3 ++ [(20, ((lb + 1 : Nat) : Int), 0, j3), (12, 0, 0, j4)]) := by simp
    have nlX : ∀ r ∈ (((11, 0, 0, (p : Int)) :: l1) ++ [(15, 0, (lb : Int), j0)] : List itm), r.1 ≠ 20 := fun r hr => by
      rcases List.mem_append.mp hr with z | z
      · exact nl r z
      · rw [List.mem_singleton.mp z]; simp
    refine ⟨?_, fun ws fr hc => ?_⟩
    · have l23 : LBo (l2 ++ [(16, 0, ((lb + 1 : Nat) : Int), j1)] ++ l3) (lb + 2) lb3 := LBo_app (by simpa using LBo_skp (X := []) (Y := [(16, 0, ((lb + 1 : Nat) : Int), j1)]) (fun r hr => by simp at hr) a1 (fun r hr => by rw [List.mem_singleton.mp hr]; simp)) b1
      -- the labels' order does not matter
      have pm : (labs ([(11, 0, 0, (p : Int))] ++ l1 ++ [(15, 0, (lb : Int), j0)] ++ l2 ++ [(16, 0, ((lb + 1 : Nat) : Int), j1)] ++ [(20, (lb : Int), 0, j2)] ++ l3 ++ [(20, ((lb + 1 : Nat) : Int), 0, j3)] ++ [(12, 0, 0, j4)])).Perm ((lb : Int) :: ((lb + 1 : Nat) : Int) :: labs (l2 ++ [(16, 0, ((lb + 1 : Nat) : Int), j1)] ++ l3)) := by
        have z1 : labs [((11, 0, 0, (p : Int)) : itm)] = [] := by simp [labs]
        have z2 : labs l1 = [] := labs_no (no_k ek).2
        have z3 : labs [((15, 0, (lb : Int), j0) : itm)] = [] := by simp [labs]
        have z4 : labs [((16, 0, ((lb + 1 : Nat) : Int), j1) : itm)] = [] := by simp [labs]
        have z5 : labs [((20, (lb : Int), 0, j2) : itm)] = [(lb : Int)] := by simp [labs]
        have z6 : labs [((20, ((lb + 1 : Nat) : Int), 0, j3) : itm)] = [((lb + 1 : Nat) : Int)] := by simp [labs]
        have z7 : labs [((12, 0, 0, j4) : itm)] = [] := by simp [labs]
        rw [labs_app, labs_app, labs_app, labs_app, labs_app, labs_app, labs_app, labs_app, labs_app, labs_app, z1, z2, z3, z4, z5, z6, z7]
        simp only [List.nil_append, List.append_nil, List.append_assoc]
        refine List.perm_middle.trans (List.Perm.cons _ ?_)
        show (labs l2 ++ (labs l3 ++ [((lb + 1 : Nat) : Int)])).Perm _
        rw [← List.append_assoc]
        exact List.perm_append_singleton _ _
      obtain ⟨y1, y2, y3⟩ := l23
      refine ⟨by omega, ?_, fun x hx => ?_⟩
      · rw [pm.nodup_iff, List.nodup_cons, List.nodup_cons]
        refine ⟨fun q => ?_, fun q => ?_, y2⟩
        · rcases List.mem_cons.mp q with z | z
          · omega
          · have := y3 _ z; omega
        · have := y3 _ q; omega
      · rcases List.mem_cons.mp (pm.mem_iff.mp hx) with z | z
        · omega
        · rcases List.mem_cons.mp z with z | z
          · omega
          · have := y3 _ z; omega
    · rw [eL]
      obtain ⟨i1, i2⟩ := x_an (P := P) (p := p) (fr := fr) (ws := ws) hob hH (Or.inl rfl) h2 (fun r hr => he r (by simp [hr])) (by omega)
      have f1 : fdA P ob e0 (0, ws, fr, -1) (((11, 0, 0, (p : Int)) :: l1) ++ [(15, 0, (lb : Int), j0)]) = (0, p :: ws, false, -1) := by rw [fdA_app, i2, fdA_cons, n15 e15]; rfl
      have hp1 : (p :: ws).length < 30 := by rw [List.length_cons]; omega
      obtain ⟨c1, ⟨fr', c2, c3⟩, c4⟩ := a2 (p :: ws) false (by rw [List.length_cons]; omega)
      have c5 := c3 (Or.inr rfl)
      subst c5
      obtain ⟨d1, ⟨fr2, d2, d3⟩, d4⟩ := b2 (p :: ws) false (by rw [List.length_cons]; omega)
      have d5 := d3 (Or.inr rfl)
      subst d5
      have f2 : fdA P ob e0 (0, ws, fr, -1) ((((11, 0, 0, (p : Int)) :: l1) ++ [(15, 0, (lb : Int), j0)]) ++ l2) = (0, p :: ws, false, -1) := by rw [fdA_app, f1, c2]
      have f3 : fdA P ob e0 (0, p :: ws, false, -1) [(16, 0, ((lb + 1 : Nat) : Int), j1), (20, (lb : Int), 0, j2)] = (0, p :: ws, false, -1) := by rw [fdA_cons, n16 e16, fdA_cons, n20 e20]; rfl
      refine ⟨?_, ⟨false, ?_, fun _ => rfl⟩, ?_⟩
      · refine (okA_app _ _).mpr ⟨(okA_app _ _).mpr ⟨(okA_app _ _).mpr ⟨i1, by rw [i2]; exact okA_one (r15 hp1 hH)⟩, by rw [f1]; exact c1⟩, ?_⟩
        rw [f2]
        refine (okA_app _ _).mpr ⟨(okA_app _ _).mpr ⟨⟨r16 hp1 hH, by rw [n16 e16]; exact okA_one (r20 hp1 hH)⟩, by rw [f3]; exact d1⟩, ?_⟩
        rw [fdA_app, f3, d2]
        exact ⟨r20 hp1 hH, by rw [n20 e21]; exact okA_one (r12 (by omega) hH)⟩
      · rw [fdA_app, f2, fdA_app, fdA_app, f3, d2, fdA_cons, n20 e21, fdA_cons, n12]
        rfl
      · have lX : ((((11, 0, 0, (p : Int)) :: l1) ++ [(15, 0, (lb : Int), j0)] : List itm)).length = l1.length + 2 := by simp
        refine JP_mid (fun i hi hj' => ?_) (by rw [f1, lX, ← Nat.add_assoc]; exact c4) (fun i hi hj' => ?_)
        · have ei := olast nj hi hj'
          subst ei
          have sh : ((((11, 0, 0, (p : Int)) :: l1) ++ [(15, 0, (lb : Int), j0)]) ++ l2) ++ ([(16, 0, ((lb + 1 : Nat) : Int), j1), (20, (lb : Int), 0, j2)] ++ l3 ++ [(20, ((lb + 1 : Nat) : Int), 0, j3), (12, 0, 0, j4)]) = (((11, 0, 0, (p : Int)) :: l1) ++ [(15, 0, (lb : Int), j0)] ++ (l2 ++ [(16, 0, ((lb + 1 : Nat) : Int), j1)])) ++ ((20, (lb : Int), 0, j2) :: (l3 ++ [(20, ((lb + 1 : Nat) : Int), 0, j3), (12, 0, 0, j4)])) := by simp
          rw [sh]
          refine JPf (by simp <;> omega) ?_ rfl (by rw [gat]; rfl) (by simp) ?_
          · rw [show I + ((11, 0, 0, (p : Int)) :: l1 : List itm).length = I + l1.length + 1 by simp; omega, hj]
            simp
            omega
          · rw [tat, i2, fdA_app, f1, fdA_app, c2, fdA_cons, n16 e16]
            rfl
        · -- the second jump, and the else part
          by_cases z : i = 0
          · subst z
            have sh : ((((11, 0, 0, (p : Int)) :: l1) ++ [(15, 0, (lb : Int), j0)]) ++ l2) ++ ([(16, 0, ((lb + 1 : Nat) : Int), j1), (20, (lb : Int), 0, j2)] ++ l3 ++ [(20, ((lb + 1 : Nat) : Int), 0, j3), (12, 0, 0, j4)]) = ((((11, 0, 0, (p : Int)) :: l1) ++ [(15, 0, (lb : Int), j0)] ++ l2) ++ [(16, 0, ((lb + 1 : Nat) : Int), j1)] ++ ((20, (lb : Int), 0, j2) :: l3)) ++ [(20, ((lb + 1 : Nat) : Int), 0, j3), (12, 0, 0, j4)] := by simp
            have lZ : ((((11, 0, 0, (p : Int)) :: l1) ++ [(15, 0, (lb : Int), j0)]) ++ l2 : List itm).length = l1.length + l2.length + 2 := by simp; omega
            rw [sh, show (((11, 0, 0, (p : Int)) :: l1) ++ [(15, 0, (lb : Int), j0)] : List itm).length + l2.length + 0 = ((((11, 0, 0, (p : Int)) :: l1) ++ [(15, 0, (lb : Int), j0)]) ++ l2 : List itm).length by simp <;> omega]
            refine JPf (by simp <;> omega) ?_ rfl (by rw [gat]; rfl) (by simp) ?_
            · rw [lZ, show I + (l1.length + l2.length + 2) = I + l1.length + l2.length + 2 by omega, hk]
              simp
              omega
            · have f4 : fdA P ob e0 (0, p :: ws, false, -1) [(16, 0, ((lb + 1 : Nat) : Int), j1)] = (0, p :: ws, false, -1) := by rw [fdA_cons, n16 e16]; rfl
              rw [tat, f2, fdA_app, fdA_app, f2, f4, fdA_cons, n20 e20, d2]
          · have lY : ([(16, 0, ((lb + 1 : Nat) : Int), j1), (20, (lb : Int), 0, j2)] ++ l3 ++ [(20, ((lb + 1 : Nat) : Int), 0, j3), (12, 0, 0, j4)] : List itm).length = l3.length + 4 := by simp
            rw [lY] at hi
            by_cases z1 : i = 1
            · subst z1
              simp [jmp] at hj'
            by_cases z2 : i < 2 + l3.length
            · have hj2 : jmp (l3.getD (i - 2) (0, 0, 0, 0)) := by
                rw [gdL (by simp; omega), gdR (by simp; omega)] at hj'
                exact hj'
              have q := JPx_in (X := ((((11, 0, 0, (p : Int)) :: l1) ++ [(15, 0, (lb : Int), j0)]) ++ l2) ++ [(16, 0, ((lb + 1 : Nat) : Int), j1), (20, (lb : Int), 0, j2)]) (Y := [(20, ((lb + 1 : Nat) : Int), 0, j3), (12, 0, 0, j4)]) (I := I) (a := (0, ws, fr, -1)) (P := P) (ob := ob) (e0 := e0) (t := t) (l := l3) (i := i - 2) (by omega) (by
                have q0 := d4 (i - 2) (by omega) hj2
                rw [fdA_app, f2, f3]
                rw [show I + (((((11, 0, 0, (p : Int)) :: l1) ++ [(15, 0, (lb : Int), j0)]) ++ l2) ++ [(16, 0, ((lb + 1 : Nat) : Int), j1), (20, (lb : Int), 0, j2)] : List itm).length = I + l1.length + l2.length + 4 by simp; omega]
                exact q0)
              have e1 : (((((11, 0, 0, (p : Int)) :: l1) ++ [(15, 0, (lb : Int), j0)]) ++ l2) ++ [(16, 0, ((lb + 1 : Nat) : Int), j1), (20, (lb : Int), 0, j2)] : List itm).length + (i - 2) = (((11, 0, 0, (p : Int)) :: l1) ++ [(15, 0, (lb : Int), j0)] : List itm).length + l2.length + i := by simp; omega
              rw [e1] at q
              simpa using q
            · exfalso
              rw [gdR (by simp; omega)] at hj'
              have lW : ([(16, 0, ((lb + 1 : Nat) : Int), j1), (20, (lb : Int), 0, j2)] ++ l3 : List itm).length = l3.length + 2 := by simp
              rw [lW] at hj'
              have : i - (l3.length + 2) = 0 ∨ i - (l3.length + 2) = 1 := by omega
              rcases this with q | q <;> rw [q] at hj' <;> simp [jmp] at hj'
  · -- while
    intro o I p w lb p1 w1 p2 w2 lb2 l1 l2 j0 j1 x j2 j3 j4 hpo h2 ih hj hk he
    have ek := GX_k h2
    have e15 := he (15, 0, ((lb + 1 : Nat) : Int), j1) (by simp)
    have e16 := he (16, x, (lb : Int), j2) (by simp)
    have e20 := he (20, (lb : Int), 0, j0) (by simp)
    have e21 := he (20, ((lb + 1 : Nat) : Int), 0, j3) (by simp)
    obtain ⟨a1, a2⟩ := ih (fun r hr => he r (by simp [hr]))
    have nj : ∀ r ∈ ((11, 0, 0, (p : Int)) :: (20, (lb : Int), 0, j0) :: (17, 0, 0, (p : Int)) :: l1 : List itm), ¬ jmp r := fun r hr => by
      simp at hr
      rcases hr with z | z | z | z
      · rw [z]; simp
      · rw [z]; simp
      · rw [z]; simp
      · exact (no_k ek).1 r z
    have eL : ([(11, 0, 0, (p : Int))] ++ [(20, (lb : Int), 0, j0)] ++ [(17, 0, 0, (p : Int))] ++ l1 ++ [(15, 0, ((lb + 1 : Nat) : Int), j1)] ++ l2 ++ [(16, x, (lb : Int), j2)] ++ [(20, ((lb + 1 : Nat) : Int), 0, j3)] ++ [(12, 0, 0, j4)] : List itm) = ((((11, 0, 0, (p : Int)) :: (20, (lb : Int), 0, j0) :: (17, 0, 0, (p : Int)) :: l1) ++ [(15, 0, ((lb + 1 : Nat) : Int), j1)]) ++ l2) ++ [(16, x, (lb : Int), j2), (20, ((lb + 1 : Nat) : Int), 0, j3), (12, 0, 0, j4)] := by simp
    refine ⟨?_, fun ws fr hc => ?_⟩
    · have pm : (labs ([(11, 0, 0, (p : Int))] ++ [(20, (lb : Int), 0, j0)] ++ [(17, 0, 0, (p : Int))] ++ l1 ++ [(15, 0, ((lb + 1 : Nat) : Int), j1)] ++ l2 ++ [(16, x, (lb : Int), j2)] ++ [(20, ((lb + 1 : Nat) : Int), 0, j3)] ++ [(12, 0, 0, j4)])).Perm ((lb : Int) :: ((lb + 1 : Nat) : Int) :: labs l2) := by
        have z1 : labs [((11, 0, 0, (p : Int)) : itm)] = [] := by simp [labs]
        have z2 : labs l1 = [] := labs_no (no_k ek).2
        have z3 : labs [((15, 0, ((lb + 1 : Nat) : Int), j1) : itm)] = [] := by simp [labs]
        have z4 : labs [((16, x, (lb : Int), j2) : itm)] = [] := by simp [labs]
        have z5 : labs [((20, (lb : Int), 0, j0) : itm)] = [(lb : Int)] := by simp [labs]
        have z6 : labs [((20, ((lb + 1 : Nat) : Int), 0, j3) : itm)] = [((lb + 1 : Nat) : Int)] := by simp [labs]
        have z7 : labs [((12, 0, 0, j4) : itm)] = [] := by simp [labs]
        have z8 : labs [((17, 0, 0, (p : Int)) : itm)] = [] := by simp [labs]
        rw [labs_app, labs_app, labs_app, labs_app, labs_app, labs_app, labs_app, labs_app, z1, z2, z3, z4, z5, z6, z7, z8]
        simp only [List.nil_append, List.append_nil, List.append_assoc]
        show ((lb : Int) :: (labs l2 ++ [((lb + 1 : Nat) : Int)])).Perm _
        exact List.Perm.cons _ (List.perm_append_singleton _ _)
      obtain ⟨y1, y2, y3⟩ := a1
      refine ⟨by omega, ?_, fun x hx => ?_⟩
      · rw [pm.nodup_iff, List.nodup_cons, List.nodup_cons]
        refine ⟨fun q => ?_, fun q => ?_, y2⟩
        · rcases List.mem_cons.mp q with z | z
          · omega
          · have := y3 _ z; omega
        · have := y3 _ q; omega
      · rcases List.mem_cons.mp (pm.mem_iff.mp hx) with z | z
        · omega
        · rcases List.mem_cons.mp z with z | z
          · omega
          · have := y3 _ z; omega
    · rw [eL]
      have hp1 : (p :: ws).length < 30 := by rw [List.length_cons]; omega
      obtain ⟨i1, i2⟩ := y_an (P := P) (ws := p :: ws) (hh := 0) (pm := (P p : Int)) hob hH h2 (fun r hr => he r (by simp [hr])) hp1 (by omega)
      have f0 : fdA P ob e0 (0, ws, fr, -1) ((11, 0, 0, (p : Int)) :: (20, (lb : Int), 0, j0) :: (17, 0, 0, (p : Int)) :: l1) = (1, p :: ws, true, -1) := by rw [fdA_cons, n11, fdA_cons, n20 e20, fdA_cons, n17, i2]
      have f1 : fdA P ob e0 (0, ws, fr, -1) (((11, 0, 0, (p : Int)) :: (20, (lb : Int), 0, j0) :: (17, 0, 0, (p : Int)) :: l1) ++ [(15, 0, ((lb + 1 : Nat) : Int), j1)]) = (0, p :: ws, false, -1) := by rw [fdA_app, f0, fdA_cons, n15 e15]; rfl
      obtain ⟨c1, ⟨fr', c2, c3⟩, c4⟩ := a2 (p :: ws) false (by rw [List.length_cons]; omega)
      have c5 := c3 (Or.inr rfl)
      subst c5
      have f2 : fdA P ob e0 (0, ws, fr, -1) ((((11, 0, 0, (p : Int)) :: (20, (lb : Int), 0, j0) :: (17, 0, 0, (p : Int)) :: l1) ++ [(15, 0, ((lb + 1 : Nat) : Int), j1)]) ++ l2) = (0, p :: ws, false, -1) := by rw [fdA_app, f1, c2]
      refine ⟨?_, ⟨false, ?_, fun _ => rfl⟩, ?_⟩
      · refine (okA_app _ _).mpr ⟨(okA_app _ _).mpr ⟨(okA_app _ _).mpr ⟨?_, by rw [f0]; exact okA_one (r15 hp1 hH)⟩, by rw [f1]; exact c1⟩, ?_⟩
        · refine ⟨r11 (by omega) hH, ?_⟩
          rw [n11]
          refine ⟨r20 hp1 hH, ?_⟩
          rw [n20 e20]
          refine ⟨r17 (by omega) hH, ?_⟩
          rw [n17]
          exact i1
        · rw [f2]
          refine ⟨r16 hp1 hH, ?_⟩
          rw [n16 e16]
          refine ⟨r20 hp1 hH, ?_⟩
          rw [n20 e21]
          exact okA_one (r12 (by omega) hH)
      · rw [fdA_app, f2, fdA_cons, n16 e16, fdA_cons, n20 e21, fdA_cons, n12]
        rfl
      · have lX : (((11, 0, 0, (p : Int)) :: (20, (lb : Int), 0, j0) :: (17, 0, 0, (p : Int)) :: l1) ++ [(15, 0, ((lb + 1 : Nat) : Int), j1)] : List itm).length = l1.length + 4 := by simp
        refine JP_mid (fun i hi hj' => ?_) (by rw [f1, lX, ← Nat.add_assoc]; exact c4) (fun i hi hj' => ?_)
        · have ei := olast nj hi hj'
          subst ei
          have sh : ((((11, 0, 0, (p : Int)) :: (20, (lb : Int), 0, j0) :: (17, 0, 0, (p : Int)) :: l1) ++ [(15, 0, ((lb + 1 : Nat) : Int), j1)]) ++ l2) ++ [(16, x, (lb : Int), j2), (20, ((lb + 1 : Nat) : Int), 0, j3), (12, 0, 0, j4)] = (((11, 0, 0, (p : Int)) :: (20, (lb : Int), 0, j0) :: (17, 0, 0, (p : Int)) :: l1) ++ [(15, 0, ((lb + 1 : Nat) : Int), j1)] ++ (l2 ++ [(16, x, (lb : Int), j2)])) ++ [(20, ((lb + 1 : Nat) : Int), 0, j3), (12, 0, 0, j4)] := by simp
          rw [sh]
          refine JPf (by simp <;> omega) ?_ rfl (by rw [gat]; rfl) (by simp) ?_
          · rw [show I + ((11, 0, 0, (p : Int)) :: (20, (lb : Int), 0, j0) :: (17, 0, 0, (p : Int)) :: l1 : List itm).length = I + l1.length + 3 by simp; omega, hj]
            simp
            omega
          · rw [tat, f0, fdA_app, f1, fdA_app, c2, fdA_cons, n16 e16]
            rfl
        · by_cases z : i = 0
          · subst z
            -- the jump back
            have lZ : ((((11, 0, 0, (p : Int)) :: (20, (lb : Int), 0, j0) :: (17, 0, 0, (p : Int)) :: l1) ++ [(15, 0, ((lb + 1 : Nat) : Int), j1)]) ++ l2 : List itm).length = l1.length + l2.length + 4 := by simp; omega
            have gz : (((((11, 0, 0, (p : Int)) :: (20, (lb : Int), 0, j0) :: (17, 0, 0, (p : Int)) :: l1) ++ [(15, 0, ((lb + 1 : Nat) : Int), j1)]) ++ l2) ++ [(16, x, (lb : Int), j2), (20, ((lb + 1 : Nat) : Int), 0, j3), (12, 0, 0, j4)] : List itm).getD (l1.length + l2.length + 4) (0, 0, 0, 0) = (16, x, (lb : Int), j2) := by
              rw [gdR (by omega), lZ, Nat.sub_self]
              rfl
            have tz : (((((11, 0, 0, (p : Int)) :: (20, (lb : Int), 0, j0) :: (17, 0, 0, (p : Int)) :: l1) ++ [(15, 0, ((lb + 1 : Nat) : Int), j1)]) ++ l2) ++ [(16, x, (lb : Int), j2), (20, ((lb + 1 : Nat) : Int), 0, j3), (12, 0, 0, j4)] : List itm).take (l1.length + l2.length + 4) = ((((11, 0, 0, (p : Int)) :: (20, (lb : Int), 0, j0) :: (17, 0, 0, (p : Int)) :: l1) ++ [(15, 0, ((lb + 1 : Nat) : Int), j1)]) ++ l2) := by
              rw [← lZ]
              exact List.take_left' rfl
            rw [lX, show l1.length + 4 + l2.length + 0 = l1.length + l2.length + 4 by omega]
            refine ⟨1, by simp, by rw [← hk]; congr 1; omega, rfl, by rw [gz]; rfl, Or.inr ⟨by rw [gz], by omega, rfl, ?_, ?_⟩⟩
            · show (fdA P ob e0 (0, ws, fr, -1) [(11, 0, 0, (p : Int)), (20, (lb : Int), 0, j0)]).1 = 0
              rw [fdA_cons, n11, fdA_cons, n20 e20]
              rfl
            · rw [tz, f2]
              show (fdA P ob e0 (0, ws, fr, -1) [(11, 0, 0, (p : Int)), (20, (lb : Int), 0, j0)]).2.1 = _
              rw [fdA_cons, n11, fdA_cons, n20 e20]
              rfl
          · exfalso
            have : i = 1 ∨ i = 2 := by simp at hi; omega
            rcases this with q | q <;> subst q <;> simp [jmp] at hj'
  · -- nothing
    intro o I p w lb he
    refine ⟨LBo_no (fun r hr => by simp at hr), fun ws fr hc => ⟨trivial, ⟨fr, rfl, fun q => ?_⟩, JP_no (fun r hr => by simp at hr)⟩⟩
    rcases q with q | q
    · omega
    · exact q
  · -- one more
    intro o I p w lb p1 w1 lb1 p2 w2 lb2 l1 l2 ih1 ih2 he
    obtain ⟨a1, a2⟩ := ih1 (fun r hr => he r (by simp [hr]))
    obtain ⟨b1, b2⟩ := ih2 (fun r hr => he r (by simp [hr]))
    refine ⟨LBo_app a1 b1, fun ws fr hc => ?_⟩
    obtain ⟨c1, ⟨fr', c2, c3⟩, c4⟩ := a2 ws fr hc
    have := c3 (Or.inl rfl)
    subst this
    obtain ⟨d1, ⟨fr2, d2, d3⟩, d4⟩ := b2 ws false hc
    have := d3 (Or.inr rfl)
    subst this
    refine ⟨(okA_app l1 _).mpr ⟨c1, by rw [c2]; exact d1⟩, ⟨false, by rw [fdA_app, c2, d2], fun _ => rfl⟩, JP_app c4 (by rw [c2]; exact d4)⟩
end RNc
