/-! entering a sub: its rows, the class's head -/
section ROl
variable {F : Nat → Int} {n N : Nat} {P : Nat → Nat} {s0 t0 : iS} {K : List Nat} {U : List urec} {W : List wrec} {Y : List Nat} {A : List (List itm)} {I C p w u : Nat} {tr t1 t2 t3 s t q : iS} {L B : List Int} {o : Int}
/-- a sub's rows -/
theorem sub_rows (hP : PRG F n N P s0 t0 K U W Y A I C p w tr t1 t2 t3) (hu : u < A.length) (he : ∀ c k, 128 ≤ c ∧ c ≤ 156 ∨ 169 ≤ c ∧ c ≤ 171 → t c k = t3 c k) : (t 131 u = soF U u ∧ (soF U u = 1 ∨ soF U u = 2 ∨ soF U u = 3)) ∧ (t 130 u = (clF U u : Int) ∧ clF U u < 12) ∧ (t 129 (clF U u) = (nwF (clF U u : Int) W : Int) ∧ nwF (clF U u : Int) W ≤ 12) ∧ (t 134 u = (nwP (u : Int) W : Int) ∧ nwP (u : Int) W ≤ 12) ∧ nwV (u : Int) W ≤ 12 ∧ (t 136 u = (stA A u : Int) ∧ stA A u + (A.getD u []).length ≤ 3003) ∧ u < 60 := by
  obtain ⟨h1, h2, h3, ⟨h4, h5, h6, h7⟩, h8, h9, hf, h11, -⟩ := hP
  have hN := N1001 h1.1.1
  obtain ⟨z1, -, -, -⟩ := h9
  obtain ⟨d1, -, -, -⟩ := h11
  have e : ∀ c k, 128 ≤ c → c ≤ 136 → t c k = tr c k := fun c k q1 q2 => by
    rw [he c k (by omega), d1 c k (by omega) (by omega) (by omega), hf c k (by omega), z1 c k (by omega) (by omega) (by omega) (by omega)]
  have hu' : u < U.length := by omega
  obtain ⟨-, -, x3, -, x5, x6, -, -, -, -, -, x12, x13⟩ := h1.2.1
  have hm : uAt U u ∈ U := gd_mem (d := ((0, 0, 0, 0) : urec)) hu'
  obtain ⟨-, -, -, y4⟩ := h1.2.2.1.2.2.1 _ hm
  obtain ⟨y5, y6⟩ := h1.2.2.2.2.1 _ hm
  obtain ⟨x51, x52, -, -⟩ := x5 u hu'
  obtain ⟨_, _, _, cs, pf, wf, _, _, _, _, _, g2⟩ := h2
  obtain ⟨g136, gI, -⟩ := g2 u hu
  have ecl : (clF U u : Int) = (uAt U u).1 := by
    show ((uAt U u).1.toNat : Int) = _
    omega
  have cl12 : clF U u < K.length := by omega
  refine ⟨⟨by rw [e 131 u (by omega) (by omega)]; exact x52, y4⟩, ⟨by rw [e 130 u (by omega) (by omega), ecl]; exact x51, by omega⟩, ⟨by rw [e 129 _ (by omega) (by omega)]; exact x12 _ cl12, h8.2.2.1 _⟩, ⟨by rw [e 134 u (by omega) (by omega)]; exact (x13 u hu').1, h8.2.2.2.1 _⟩, h8.2.2.2.2.1 _, ⟨by rw [e 136 u (by omega) (by omega)]; exact g136, by omega⟩, by omega⟩
/-- FUNCTION at a sub's head -/
theorem hd_fun {mm : Int} (hG : CPG F P s0 t0 K U W A mm s) (hu : u < A.length) (ce : ∀ c k, 14 ≤ c → c ≤ 19 → q c k = s c k) (h14 : q 51 14 = -1) (h7 : q 51 7 = ((cmN F P s0 t0 K U W A u).length : Int)) (h16 : 0 ≤ q 51 16 ∧ q 51 16 ≤ 5000) (h15 : 0 ≤ q 51 15 ∧ q 51 15 ≤ 5000) (hn : nf q) (hv : nwV (u : Int) W ≤ 12) (hs : STK q L) (hl : L.length ≤ 15500) : ∃ s', TN 1 q s' ∧ STK s' (L ++ List.replicate (nwV (u : Int) W) 0) ∧ s' 51 9 = (L.length : Int) ∧ s' 51 7 = (((cmN F P s0 t0 K U W A u).length + 1 : Nat) : Int) ∧ ∀ c k, c ≠ 52 → ¬ (c = 51 ∧ (k = 6 ∨ k = 7 ∨ k = 9)) → s' c k = q c k := by
  obtain ⟨x, hx⟩ : ∃ x, (hdU K U W u).getD 0 (0, 0, 0, 0) = (14, x, (nwV (u : Int) W : Int), 0) := ⟨_, rfl⟩
  have hl0 : 0 < (hdU K U W u).length := by
    unfold hdU hdrU
    rw [List.length_cons]
    omega
  obtain ⟨s', a1, a2, a3, a4⟩ := c_fun (q := up q 51 7 ((((cmN F P s0 t0 K U W A u).length + 0 : Nat) : Int) + 1)) (nv := nwV (u : Int) W) (L := L) (a := x) (c := s 18 ((cmN F P s0 t0 K U W A u).length + 0)) (by omega) (STK_of hs (up_ne (by omega)) (funext fun k => up_ne (by omega))) (by omega) ⟨by rw [up_ne (by omega)]; exact hn.1, by rw [up_ne (by omega)]; exact hn.2⟩
  refine ⟨s', fetchh (m := 0) (rr := 0) hG hu hl0 hx ce h14 (by rw [Nat.add_zero]; exact h7) h16 h15 a1, a2, a3, ?_, fun c k z1 z2 => ?_⟩
  · rw [a4 51 7 (by omega) (by omega), up_same]
    omega
  · rw [a4 c k z1 (by omega), up_ne (by omega)]
/-- a method's head -/
theorem hd_met {mm : Int} (hG : CPG F P s0 t0 K U W A mm s) (hu : u < A.length) (ce : ∀ c k, 14 ≤ c → c ≤ 19 → q c k = s c k) (h14 : q 51 14 = -1) (h7 : q 51 7 = ((cmN F P s0 t0 K U W A u).length : Int)) (h16 : 0 ≤ q 51 16 ∧ q 51 16 ≤ 5000) (h15 : 0 ≤ q 51 15 ∧ q 51 15 ≤ 5000) (hn : nf q) (hv : nwV (u : Int) W ≤ 12) (h3 : soF U u = 3) (h8 : q 51 8 = (L.length : Int)) (hs : STK q (L ++ (o :: B))) (hl : (L ++ (o :: B)).length ≤ 15500) : ∃ s', TN 3 q s' ∧ STK s' ((L ++ (o :: B)) ++ List.replicate (nwV (u : Int) W) 0) ∧ s' 51 9 = ((L ++ (o :: B)).length : Int) ∧ s' 51 10 = o ∧ s' 51 7 = (((cmN F P s0 t0 K U W A u).length + 3 : Nat) : Int) ∧ ∀ c k, c ≠ 52 → ¬ (c = 51 ∧ (k = 6 ∨ k = 7 ∨ k = 9 ∨ k = 10)) → s' c k = q c k := by
  obtain ⟨s1, a1, a2, a3, a4, a5⟩ := hd_fun hG hu ce h14 h7 h16 h15 hn hv hs hl
  have d1 : (hdU K U W u).getD 1 (0, 0, 0, 0) = (0, 1, 0, 0) := by
    unfold hdU hdrU
    rw [if_pos h3]
    rfl
  have d2 : (hdU K U W u).getD 2 (0, 0, 0, 0) = (1, 6, 0, 0) := by
    unfold hdU hdrU
    rw [if_pos h3]
    rfl
  have d3 : (hdU K U W u).length = 3 := by
    unfold hdU hdrU
    rw [if_pos h3]
    rfl
  have e1 := fetchh4 (m := 1) hG hu (by omega) d1 (by simp) (by simp)
  have e2 := fetchh4 (m := 2) hG hu (by omega) d2 (by simp) (by simp)
  have l2 : ((L ++ (o :: B)) ++ List.replicate (nwV (u : Int) W) (0 : Int)).length ≤ 15512 := by
    rw [List.length_append, List.length_replicate]
    omega
  have lk : L.length < ((L ++ (o :: B)) ++ List.replicate (nwV (u : Int) W) (0 : Int)).length := by
    rw [List.length_append, List.length_append, List.length_cons]
    omega
  have eo : ((L ++ (o :: B)) ++ List.replicate (nwV (u : Int) W) (0 : Int)).getD L.length 0 = o := by
    rw [List.append_assoc, gdR (Nat.le_refl _), Nat.sub_self]
    rfl
  generalize hX : (L ++ (o :: B)) ++ List.replicate (nwV (u : Int) W) (0 : Int) = X at *
  obtain ⟨qx, hqx⟩ : ∃ qx, qx = up s1 51 7 ((((cmN F P s0 t0 K U W A u).length + 1 : Nat) : Int) + 1) := ⟨_, rfl⟩
  have fx : ∀ c k, ¬ (c = 51 ∧ k = 7) → qx c k = s1 c k := fun c k z => by rw [hqx, up_ne z]
  have stx : STK qx X := STK_of a2 (fx 51 6 (by omega)) (funext fun k => fx 52 k (by omega))
  have va := v_arg (b := 0) (c := 0) (k := L.length) stx lk (by omega) (by rw [fx 51 8 (by omega), a5 51 8 (by omega) (by omega), h8]; omega)
  rw [eo] at va
  have nx : nf qx := ⟨by rw [fx 44 5 (by omega), a5 44 5 (by omega) (by omega)]; exact hn.1, by rw [fx 48 9 (by omega), a5 48 9 (by omega) (by omega)]; exact hn.2⟩
  obtain ⟨s2, b1, b2, b3⟩ := c_push stx (by omega) nx va
  have t2 : TN 1 s1 s2 := fetchh (m := 1) (rr := 0) hG hu (by omega) d1 (fun c k z1 z2 => by rw [a5 c k (by omega) (by omega)]; exact ce c k z1 z2) (by rw [a5 51 14 (by omega) (by omega)]; exact h14) a4 (by rw [a5 51 16 (by omega) (by omega)]; exact h16) (by rw [a5 51 15 (by omega) (by omega)]; exact h15) (by rw [e1, ← hqx]; exact b1)
  have f2 : ∀ c k, c ≠ 52 → ¬ (c = 51 ∧ (k = 6 ∨ k = 7 ∨ k = 9)) → s2 c k = q c k := fun c k z1 z2 => by rw [b3 c k z1 (by omega), fx c k (by omega), a5 c k z1 z2]
  have s27 : s2 51 7 = (((cmN F P s0 t0 K U W A u).length + 2 : Nat) : Int) := by
    rw [b3 51 7 (by omega) (by omega), hqx, up_same]
    omega
  obtain ⟨qy, hqy⟩ : ∃ qy, qy = up s2 51 7 ((((cmN F P s0 t0 K U W A u).length + 2 : Nat) : Int) + 1) := ⟨_, rfl⟩
  have fy : ∀ c k, ¬ (c = 51 ∧ k = 7) → qy c k = s2 c k := fun c k z => by rw [hqy, up_ne z]
  obtain ⟨s3, g1, g2, g3⟩ := c_popv (s := qy) (a := 6) (b := 0) (c := 0) (STK_of b2 (fy 51 6 (by omega)) (funext fun k => fy 52 k (by omega))) (by omega)
  have f3 : ∀ c k, c ≠ 52 → ¬ (c = 51 ∧ (k = 6 ∨ k = 7 ∨ k = 9)) → s3 c k = q c k := fun c k z1 z2 => by rw [g2 c k z1 (by omega), fy c k (by omega), f2 c k z1 z2]
  rw [as_ptr (Or.inl rfl), bq, if_pos rfl, d258 (by rw [up_ne (by omega), f3 44 5 (by omega) (by omega)]; exact hn.1) (by rw [up_ne (by omega), f3 48 9 (by omega) (by omega)]; exact hn.2)] at g3
  have t3 : TN 1 s2 (up s3 51 10 o) := fetchh (m := 2) (rr := 0) hG hu (by omega) d2 (fun c k z1 z2 => by rw [f2 c k (by omega) (by omega)]; exact ce c k z1 z2) (by rw [f2 51 14 (by omega) (by omega)]; exact h14) s27 (by rw [f2 51 16 (by omega) (by omega)]; exact h16) (by rw [f2 51 15 (by omega) (by omega)]; exact h15) (by rw [e2, ← hqy]; exact g3)
  refine ⟨up s3 51 10 o, TN_add (TN_add a1 t2) t3, STK_of g1 (up_ne (by omega)) (funext fun k => up_ne (by omega)), ?_, up_same _ _ _ _, ?_, fun c k z1 z2 => by rw [up_ne (by omega)]; exact f3 c k z1 (by omega)⟩
  · rw [up_ne (by omega), g2 51 9 (by omega) (by omega), fy 51 9 (by omega), b3 51 9 (by omega) (by omega), fx 51 9 (by omega)]
    exact a3
  · rw [up_ne (by omega), g2 51 7 (by omega) (by omega), hqy, up_same]
    omega
theorem al_cx {a v : Int} {s s' : iS} (e : mem_allocate a s = some (v, s')) : LCx s s' := fun c k h => (show md L_mem_allocate G_mem_allocate s s' from fmem_allocate _ _ _ e) c k (by simp [L_mem_allocate]; omega) (by simp [G_mem_allocate]; omega)
theorem mk_rx {a v : Int} {t t' : iS} (e : m_make a t = some (v, t')) : LRx t t' := fun c k h1 h2 h3 h4 h5 => (show md L_m_make G_m_make t t' from fm_make _ _ _ e) c k (by simp [L_m_make]; omega) (by simp [G_m_make]; omega)
/-- a constructor's head, with the reference's making of the object -/
theorem hd_con {mm : Int} (hG : CPG F P s0 t0 K U W A mm s) (hu : u < A.length) (ce : ∀ c k, 14 ≤ c → c ≤ 19 → q c k = s c k) (h14 : q 51 14 = -1) (h7 : q 51 7 = ((cmN F P s0 t0 K U W A u).length : Int)) (h16 : 0 ≤ q 51 16 ∧ q 51 16 ≤ 5000) (h15 : 0 ≤ q 51 15 ∧ q 51 15 ≤ 5000) (h9 : q 48 9 = 0) (hv : nwV (u : Int) W ≤ 12) (hf : nwF (clF U u : Int) W ≤ 12) (h1 : soF U u = 1) (hs : STK q L) (hl : L.length ≤ 15500) (hLB : LB q t) (hgo : gO q t) : ∃ (m : Nat) (rv : Int) (s' ta : iS), TN m q s' ∧ m ≤ 4 ∧ m_make (if 1 ≤ (nwF (clF U u : Int) W : Int) then (nwF (clF U u : Int) W : Int) else 1) t = some (rv, ta) ∧ LRx t ta ∧ LB s' ta ∧ (∀ c k, ¬ (44 ≤ c ∧ c ≤ 49) → c ≠ 52 → ¬ (c = 51 ∧ (k = 6 ∨ k = 7 ∨ k = 9 ∨ k = 10 ∨ k = 14)) → s' c k = q c k) ∧ ((m = 4 ∧ gO s' ta ∧ s' 48 9 = 0 ∧ s' 51 14 = -1 ∧ STK s' (L ++ List.replicate (nwV (u : Int) W) 0) ∧ s' 51 9 = (L.length : Int) ∧ s' 51 10 = rv ∧ w16 rv ∧ s' 51 7 = (((cmN F P s0 t0 K U W A u).length + 4 : Nat) : Int)) ∨ (s' 51 14 = 3 ∧ ta 121 99 = 3)) := by
  obtain ⟨s1, a1, a2, a3, a4, a5⟩ := hd_fun hG hu ce h14 h7 h16 h15 ⟨hgo.1, h9⟩ hv hs hl
  obtain ⟨x, hx⟩ : ∃ x : Int, x = (if (1 : Int) < (nwF (clF U u : Int) W : Int) then (nwF (clF U u : Int) W : Int) else 1) := ⟨_, rfl⟩
  have hx' : (if 1 ≤ (nwF (clF U u : Int) W : Int) then (nwF (clF U u : Int) W : Int) else 1) = x := by
    rw [hx]
    split <;> split <;> omega
  have x1 : 1 ≤ x ∧ x ≤ 12 := by
    rw [hx]
    split <;> omega
  have hne : ¬ soF U u = 3 := by omega
  have d1 : (hdU K U W u).getD 1 (0, 0, 0, 0) = (0, 0, x, 0) := by
    unfold hdU hdrU
    rw [if_neg hne, if_pos h1, hx]
    rfl
  have d2 : (hdU K U W u).getD 2 (0, 0, 0, 0) = (15, 102, 1, 8) := by
    unfold hdU hdrU
    rw [if_neg hne, if_pos h1]
    rfl
  have d3 : (hdU K U W u).getD 3 (0, 0, 0, 0) = (1, 6, 0, 0) := by
    unfold hdU hdrU
    rw [if_neg hne, if_pos h1]
    rfl
  have d4 : (hdU K U W u).length = 4 := by
    unfold hdU hdrU
    rw [if_neg hne, if_pos h1]
    rfl
  have e1 := fetchh4 (m := 1) hG hu (by omega) d1 (by simp) (by simp)
  have e2 := fetchh4 (m := 2) hG hu (by omega) d2 (by simp) (by simp)
  have e3 := fetchh4 (m := 3) hG hu (by omega) d3 (by simp) (by simp)
  have l2 : (L ++ List.replicate (nwV (u : Int) W) (0 : Int)).length ≤ 15512 := by
    rw [List.length_append, List.length_replicate]
    omega
  generalize hX : L ++ List.replicate (nwV (u : Int) W) (0 : Int) = X at *
  -- PUSH constant
  obtain ⟨qx, hqx⟩ : ∃ qx, qx = up s1 51 7 ((((cmN F P s0 t0 K U W A u).length + 1 : Nat) : Int) + 1) := ⟨_, rfl⟩
  have fx : ∀ c k, ¬ (c = 51 ∧ k = 7) → qx c k = s1 c k := fun c k z => by rw [hqx, up_ne z]
  have stx : STK qx X := STK_of a2 (fx 51 6 (by omega)) (funext fun k => fx 52 k (by omega))
  have nx : nf qx := ⟨by rw [fx 44 5 (by omega), a5 44 5 (by omega) (by omega)]; exact hgo.1, by rw [fx 48 9 (by omega), a5 48 9 (by omega) (by omega)]; exact h9⟩
  obtain ⟨s2, b1, b2, b3⟩ := c_push (a := 0) (b := x) (c := 0) stx (by omega) nx v_con
  have t2 : TN 1 s1 s2 := fetchh (m := 1) (rr := 0) hG hu (by omega) d1 (fun c k z1 z2 => by rw [a5 c k (by omega) (by omega)]; exact ce c k z1 z2) (by rw [a5 51 14 (by omega) (by omega)]; exact h14) a4 (by rw [a5 51 16 (by omega) (by omega)]; exact h16) (by rw [a5 51 15 (by omega) (by omega)]; exact h15) (by rw [e1, ← hqx]; exact b1)
  have f2 : ∀ c k, c ≠ 52 → ¬ (c = 51 ∧ (k = 6 ∨ k = 7 ∨ k = 9)) → s2 c k = q c k := fun c k z1 z2 => by rw [b3 c k z1 (by omega), fx c k (by omega), a5 c k z1 z2]
  have s27 : s2 51 7 = (((cmN F P s0 t0 K U W A u).length + 2 : Nat) : Int) := by
    rw [b3 51 7 (by omega) (by omega), hqx, up_same]
    omega
  -- CALL Memory.alloc
  obtain ⟨qy, hqy⟩ : ∃ qy, qy = up s2 51 7 ((((cmN F P s0 t0 K U W A u).length + 2 : Nat) : Int) + 1) := ⟨_, rfl⟩
  have fy : ∀ c k, ¬ (c = 51 ∧ k = 7) → qy c k = s2 c k := fun c k z => by rw [hqy, up_ne z]
  have y7 : qy 51 7 = (((cmN F P s0 t0 K U W A u).length + 3 : Nat) : Int) := by
    rw [hqy, up_same]
    omega
  have gy : ∀ c k, c ≠ 52 → ¬ (c = 51 ∧ (k = 6 ∨ k = 7 ∨ k = 9)) → qy c k = q c k := fun c k z1 z2 => by rw [fy c k (by omega), f2 c k z1 z2]
  have y9 : qy 51 9 = (L.length : Int) := by rw [fy 51 9 (by omega), b3 51 9 (by omega) (by omega), fx 51 9 (by omega)]; exact a3
  have sty : STK qy (X ++ [x]) := STK_of b2 (fy 51 6 (by omega)) (funext fun k => fy 52 k (by omega))
  have lby : LB qy t := LB_of hLB (fun c k z => gy c k (by omega) (by omega)) (fun _ _ _ => rfl)
  have goy : gO qy t := ⟨by rw [gy 44 5 (by omega) (by omega)]; exact hgo.1, hgo.2⟩
  have ex : qy 52 X.length = x := STK_at (k := 0) sty (by simp)
  have el : ∀ b c d : Int, lib_perform 8 (qy 52 X.length) b c d qy = mem_allocate x qy := fun b c d => by
    rw [ex]
    unfold lib_perform
    rw [gr (by omega)]
    simp only [Int.reduceEq, ↓reduceIte, bd_id]
  have T3 : ∀ (rv : Int) (sa s' : iS), mem_allocate x qy = some (rv, sa) → bd (mac_push rv (up sa 51 6 (X.length : Int))) (fun _ s54 => mac_doCommand_258 s54) = some (0, s') → TN 1 s2 s' := fun rv sa s' z1 z2 => by
    have cc := c_cal2 (v2 := 102) (kk := 8) (rv := rv) (sa := sa) (B := [x]) sty (by simp) (by rw [List.length_append, List.length_singleton]; omega) (by omega) (by rw [el]; exact z1) (al_cx z1 51 6 (by omega))
    refine fetchh (m := 2) (rr := 0) hG hu (by omega) d2 (fun c k z1 z2 => by rw [f2 c k (by omega) (by omega)]; exact ce c k z1 z2) (by rw [f2 51 14 (by omega) (by omega)]; exact h14) s27 (by rw [f2 51 16 (by omega) (by omega)]; exact h16) (by rw [f2 51 15 (by omega) (by omega)]; exact h15) ?_
    rw [e2, ← hqy]
    exact cc.trans z2
  rcases mk_ok1 lby goy (show w16 x by omega) with ⟨rv, rv', sa, ta, o1, o2, ⟨o3, o4, o5⟩, o6, o7⟩ | ⟨rv, rv', sa, ta, o1, o2, o3, o6, o7⟩
  · -- made
    have cx := al_cx o1
    have stc := STK_cut (sa := sa) sty (funext fun k => cx 52 k (by omega))
    obtain ⟨s4, y1, y2, y3⟩ := push_ex (v := rv) stc (by omega)
    have f4 : ∀ c k, ¬ (44 ≤ c ∧ c ≤ 49) → c ≠ 52 → ¬ (c = 51 ∧ k = 6) → s4 c k = qy c k := fun c k z0 z1 z2 => by rw [y3 c k z1 z2, up_ne z2, cx c k z0]
    have s459 : s4 44 5 = 0 ∧ s4 48 9 = 0 := by
      refine ⟨by rw [y3 44 5 (by omega) (by omega), up_ne (by omega)]; exact o7.1, ?_⟩
      rw [y3 48 9 (by omega) (by omega), up_ne (by omega), al9 _ _ o1, gy 48 9 (by omega) (by omega)]
      exact h9
    have t4 := T3 rv sa s4 o1 (by rw [y1, bq, d258 s459.1 s459.2])
    have lb4 : LB s4 ta := LB_of o6 (fun c k z => by rw [y3 c k (by omega) (by omega), up_ne (by omega)]) (fun _ _ _ => rfl)
    have s47 : s4 51 7 = (((cmN F P s0 t0 K U W A u).length + 3 : Nat) : Int) := by rw [f4 51 7 (by omega) (by omega) (by omega)]; exact y7
    -- POP pointer
    obtain ⟨qz, hqz⟩ : ∃ qz, qz = up s4 51 7 ((((cmN F P s0 t0 K U W A u).length + 3 : Nat) : Int) + 1) := ⟨_, rfl⟩
    have fz : ∀ c k, ¬ (c = 51 ∧ k = 7) → qz c k = s4 c k := fun c k z => by rw [hqz, up_ne z]
    obtain ⟨s5, g1, g2, g3⟩ := c_popv (s := qz) (a := 6) (b := 0) (c := 0) (STK_of y2 (fz 51 6 (by omega)) (funext fun k => fz 52 k (by omega))) (by omega)
    have f5 : ∀ c k, c ≠ 52 → ¬ (c = 51 ∧ (k = 6 ∨ k = 7)) → s5 c k = s4 c k := fun c k z1 z2 => by rw [g2 c k z1 (by omega), fz c k (by omega)]
    rw [as_ptr (Or.inl rfl), bq, if_pos rfl, d258 (by rw [up_ne (by omega), f5 44 5 (by omega) (by omega)]; exact s459.1) (by rw [up_ne (by omega), f5 48 9 (by omega) (by omega)]; exact s459.2)] at g3
    have f4q : ∀ c k, ¬ (44 ≤ c ∧ c ≤ 49) → c ≠ 52 → ¬ (c = 51 ∧ (k = 6 ∨ k = 7 ∨ k = 9)) → s4 c k = q c k := fun c k z0 z1 z2 => by rw [f4 c k z0 z1 (by omega), gy c k z1 z2]
    have t5 : TN 1 s4 (up s5 51 10 rv) := fetchh (m := 3) (rr := 0) hG hu (by omega) d3 (fun c k z1 z2 => by rw [f4q c k (by omega) (by omega) (by omega)]; exact ce c k z1 z2) (by rw [f4q 51 14 (by omega) (by omega) (by omega)]; exact h14) s47 (by rw [f4q 51 16 (by omega) (by omega) (by omega)]; exact h16) (by rw [f4q 51 15 (by omega) (by omega) (by omega)]; exact h15) (by rw [e3, ← hqz]; exact g3)
    refine ⟨4, rv', up s5 51 10 rv, ta, TN_add (TN_add (TN_add a1 t2) t4) t5, Nat.le_refl _, by rw [hx']; exact o2, mk_rx o2, LB_of lb4 (fun c k z => by rw [up_ne (by omega), f5 c k (by omega) (by omega)]) (fun _ _ _ => rfl), fun c k z0 z1 z2 => by rw [up_ne (by omega), f5 c k z1 (by omega), f4q c k z0 z1 (by omega)], Or.inl ⟨rfl, ⟨by rw [up_ne (by omega), f5 44 5 (by omega) (by omega)]; exact s459.1, o7.2⟩, by rw [up_ne (by omega), f5 48 9 (by omega) (by omega)]; exact s459.2, by rw [up_ne (by omega), f5 51 14 (by omega) (by omega), f4q 51 14 (by omega) (by omega) (by omega)]; exact h14, STK_of g1 (up_ne (by omega)) (funext fun k => up_ne (by omega)), ?_, by rw [up_same]; exact o3, by rw [← o3]; exact ⟨by omega, by omega⟩, ?_⟩⟩
    · rw [up_ne (by omega), f5 51 9 (by omega) (by omega), f4 51 9 (by omega) (by omega) (by omega)]
      exact y9
    · rw [up_ne (by omega), g2 51 7 (by omega) (by omega), hqz, up_same]
      omega
  · -- no room
    have cx := al_cx o1
    have stc := STK_cut (sa := sa) sty (funext fun k => cx 52 k (by omega))
    obtain ⟨s4, y1, y2, y3⟩ := push_ex (v := rv) stc (by omega)
    have s45 : s4 44 5 = 1 := by rw [y3 44 5 (by omega) (by omega), up_ne (by omega)]; exact o7.1
    have t4 := T3 rv sa (up s4 51 14 3) o1 (by rw [y1, bq, d258_f s45])
    refine ⟨3, rv', up s4 51 14 3, ta, TN_add (TN_add a1 t2) t4, by omega, by rw [hx']; exact o2, mk_rx o2, LB_of o6 (fun c k z => by rw [up_ne (by omega), y3 c k (by omega) (by omega), up_ne (by omega)]) (fun _ _ _ => rfl), fun c k z0 z1 z2 => by rw [up_ne (by omega), y3 c k z1 (by omega), up_ne (by omega), cx c k z0, gy c k z1 (by omega)], Or.inr ⟨up_same _ _ _ _, o7.2⟩⟩
end ROl
