/-! both machines: numbers, this, signs -/
section RNm
variable {F : Nat → Int} {n N : Nat} {P : Nat → Nat} {s0 t0 : iS} {K : List Nat} {U : List urec} {W : List wrec} {Y : List Nat} {A : List (List itm)} {I C p w u i fu m : Nat} {tr t1 t2 t3 s s' t t' q qB sB s1 : iS} {r : itm} {x : crc} {f : frm} {g : List frm} {pv vv st st' : List Int} {ob v v' : Int}
theorem se32 {x : Int} (h : w16 x) : BitVec.ofInt 32 x = (BitVec.ofInt 16 x).signExtend 32 := by
  apply BitVec.eq_of_toInt_eq
  rw [BitVec.toInt_signExtend_of_le (by omega), BitVec.toInt_ofInt, BitVec.toInt_ofInt]
  rw [Int.bmod_eq_of_le (by omega) (by omega), Int.bmod_eq_of_le (by omega) (by omega)]
theorem to16 {b : BitVec 16} : w16 b.toInt := by
  have h1 := BitVec.le_toInt b
  have h2 := BitVec.toInt_lt (x := b)
  simp at h1 h2
  exact ⟨h1, h2⟩
theorem and_w {x y : Int} (hx : w16 x) (hy : w16 y) : w16 (i_and x y) := by
  have e : i_and x y = (BitVec.ofInt 32 x &&& BitVec.ofInt 32 y).toInt := rfl
  rw [e, se32 hx, se32 hy, ← BitVec.signExtend_and, BitVec.toInt_signExtend_of_le (by omega)]
  exact to16
theorem or_w {x y : Int} (hx : w16 x) (hy : w16 y) : w16 (i_or x y) := by
  have e : i_or x y = (BitVec.ofInt 32 x ||| BitVec.ofInt 32 y).toInt := rfl
  rw [e, se32 hx, se32 hy, ← BitVec.signExtend_or, BitVec.toInt_signExtend_of_le (by omega)]
  exact to16
theorem not_w {x : Int} (hx : w16 x) : w16 (i_xor x (-1)) := by
  have e : i_xor x (-1) = (BitVec.ofInt 32 x ^^^ BitVec.ofInt 32 (-1)).toInt := rfl
  rw [e, se32 hx, se32 (by decide), ← BitVec.signExtend_xor, BitVec.toInt_signExtend_of_le (by omega)]
  exact to16
theorem ITR_of {k : Nat} (h : ITR F P s0 t0 K U W u r t k) (he : ∀ c j, 128 ≤ c ∧ c ≤ 156 ∨ 169 ≤ c ∧ c ≤ 171 → t' c j = t c j) : ITR F P s0 t0 K U W u r t' k := by
  unfold ITR CR at h ⊢
  obtain ⟨h1, h2, h3, h4, h5, h6, h7, h8, h9⟩ := h
  refine ⟨by rw [he 144 k (by omega)]; exact h1, h2, by rw [he 145 k (by omega)]; exact h3, fun z => ?_, by rw [he 145 k (by omega)]; exact h5, by rw [he 145 k (by omega)]; exact h6, fun z => ?_, by rw [he 146 k (by omega)]; exact h8, by rw [he 145 k (by omega)]; exact h9⟩
  · obtain ⟨a, b, c1, c2, c3, c4, c5, c6⟩ := h4 z
    exact ⟨a, b, by rw [he 146 k (by omega)]; exact c1, by rw [he 170 k (by omega)]; exact c2, c3, c4, c5, fun j hj => by rw [he 171 _ (by omega)]; exact c6 j hj⟩
  · obtain ⟨c, c1, c2, c3, c4, c5, c6⟩ := h7 z
    exact ⟨c, c1, by rw [he 145 k (by omega)]; exact c2, by rw [he 152 c (by omega), he 153 c (by omega), he 154 c (by omega), he 155 c (by omega)]; exact c3, by rw [he 151 c (by omega)]; exact c4, c5, c6⟩
/-- what stands of the item -/
theorem SIM_k (hP : PRG F n N P s0 t0 K U W Y A I C p w tr t1 t2 t3) (h : SIM F P s0 t0 K U W A t3 fu s t (u, i, pv, vv, st, ob) g) (hr : (A.getD u []).getD i (0, 0, 0, 0) = r) : ITR F P s0 t0 K U W u r t (stA A u + i) ∧ stA A u + i < 5000 ∧ t 121 98 = ((stA A u + i : Nat) : Int) ∧ (u < A.length ∧ i < (A.getD u []).length) ∧ rqA (obF F P t0 U W u) 360 (aA F P s0 t0 K U W A u i) r ∧ st.length = (aA F P s0 t0 K U W A u i).1 ∧ (∀ x ∈ st, w16 x) := by
  obtain ⟨⟨-, g2, -⟩, ⟨⟨⟨b1, b1'⟩, -, ⟨-, -, b3, -⟩, -⟩, -⟩, -, -, -, -, -, -, -, ⟨e98, -⟩, el, -⟩ := h
  have it := PRG_it hP b1 b1'
  have rq := rq_at hP b1 b1'
  obtain ⟨h1, h2, h3, ⟨h4, h5, h6, h7⟩, -⟩ := hP
  have hN := N1001 h1.1.1
  obtain ⟨pf, -, -, -, a4, -, -⟩ := AOK_it h2
  have kI := (a4 u i b1 b1').1
  rw [hr] at it rq
  exact ⟨ITR_of it g2, by omega, e98, ⟨b1, b1'⟩, rq, el, b3⟩
/-- the stack at an item's first command -/
theorem SIM_q (h : SIM F P s0 t0 K U W A t3 fu s t (u, i, pv, vv, st, ob) g) (m4 : ∀ c k, ¬ (c = 51 ∧ (k = 16 ∨ k = 18)) → sB c k = s c k) {v : Int} : STK (up sB 51 7 v) (csG U g ++ (preF U (u, i, pv, vv, st, ob) ++ pv ++ vv ++ st)) ∧ nf (up sB 51 7 v) := by
  obtain ⟨-, -, ⟨h1, -⟩, -, -, -, -, ⟨l1, l2, l3, l4⟩, -, -, -, -⟩ := h
  exact ⟨STK_of h1 (by rw [up_ne (by omega), m4 51 6 (by omega)]) (funext fun k => by rw [up_ne (by omega), m4 52 k (by omega)]), by rw [up_ne (by omega), m4 44 5 (by omega)]; exact l2.1, by rw [up_ne (by omega), m4 48 9 (by omega)]; exact l3⟩
theorem snoc1 {L : List Int} (h : 1 ≤ L.length) : ∃ M x, L = M ++ [x] := by
  have hn : L ≠ [] := fun e => by rw [e] at h; simp at h
  exact ⟨L.dropLast, L.getLast hn, (List.dropLast_concat_getLast hn).symm⟩
theorem snoc2 {L : List Int} (h : 2 ≤ L.length) : ∃ M x y, L = M ++ [x, y] := by
  obtain ⟨M, y, e⟩ := snoc1 (L := L) (by omega)
  rw [e, List.length_append, List.length_singleton] at h
  obtain ⟨M', x, e'⟩ := snoc1 (L := M) (by omega)
  exact ⟨M', x, y, by rw [e, e']; simp⟩
theorem RTK_98 {L : List Int} {z : Int} (h : RTK t L) : RTK (up t 121 98 z) L := RTK_of h (up_ne (by omega)) (funext fun k => up_ne (by omega))
/-- one value is pushed -/
theorem I_push {a b c : Int} (hP : PRG F n N P s0 t0 K U W Y A I C p w tr t1 t2 t3) (h : SIM F P s0 t0 K U W A t3 fu s t (u, i, pv, vv, st, ob) g) (hr : (A.getD u []).getD i (0, 0, 0, 0) = r) (hk : r.1 = 0 ∨ r.1 = 3 ∨ r.1 = 4 ∨ r.1 = 9 ∧ obF F P t0 U W u r.2.1 = 1) (he : emU F P s0 t0 K U W u r = [(0, a, b, c)]) (hc : c ≠ -9)
    (hv : ∀ q : iS, (∀ c k, ¬ (c = 51 ∧ (k = 7 ∨ k = 16 ∨ k = 18)) → q c k = s c k) → mac_valueOf a b c q = some (v, q)) (hw : w16 v) (hR : m_doItem t = bd (m_put v' (up t 121 98 (t 121 98 + 1))) (fun _ s5 => some (0, s5))) (hv' : i_s v' = v) : STP F P s0 t0 K U W A t3 fu s t ((u, i, pv, vv, st, ob) :: g) := by
  obtain ⟨it, k5, e98, ⟨hu, hi⟩, rq, el, b3⟩ := SIM_k hP h hr
  obtain ⟨L1, L2⟩ := SIM_len hP h
  have g1 := h.1.1
  have rt := h.2.2.1.2
  obtain ⟨mm, g1⟩ := g1
  have e9 : e0U F P s0 t0 K U W u r = false := by
    unfold e0U
    rw [he]
    rfl
  refine STP_stk (st' := st ++ [v]) hP h hr ⟨fun _ => e9, by omega, by omega, by omega, by omega⟩ (fun x hx => ?_) ?_ (fun sB m1 m2 m4 => ?_) ?_
  · rcases List.mem_append.mp hx with z | z
    · exact b3 x z
    · rw [List.mem_singleton.mp z]; exact hw
  · rw [List.length_append, List.length_singleton, el]
    unfold nxA
    dsimp only
    by_cases c9 : r.1 = 9
    · rw [if_neg (by omega), if_neg (by omega), if_pos c9]
      omega
    · rw [if_pos (by omega)]
  · obtain ⟨q1, q2⟩ := SIM_q h m4 (v := ((cpo F P s0 t0 K U W A u i + 1 : Nat) : Int))
    have e4 := fetch4 (m := 0) (x := (0, a, b, c)) g1 hu hi hr (by rw [he]; simp) (by rw [he]; rfl) (by simp) (by simp) hc (by simp)
    obtain ⟨s1, d1, d2, d3⟩ := c_push (v := v) q1 (by have : (csG U g ++ (preF U (u, i, pv, vv, st, ob) ++ pv ++ vv ++ st)).length ≤ 15360 := L1
                                                      omega) q2 (hv _ (fun c k z => by rw [up_ne (by omega), m4 c k (by omega)]))
    refine ⟨s1, ?_, ?_, ?_⟩
    · rw [he]
      exact step0 h hr m1 (by rw [he]; simp) (x := (0, a, b, c)) (by rw [he]; rfl) (by rw [Nat.add_zero] at e4; rw [e4]; exact d1)
    · simpa [List.append_assoc] using d2
    · rw [he]; exact CX_fs d3
  · obtain ⟨r1, r2⟩ := rput_ok (v := v') (RTK_98 (z := t 121 98 + 1) rt) (by omega)
    rw [hv'] at r1 r2
    refine ⟨_, by rw [hR, r1, bq], by rw [← List.append_assoc]; exact r2, fun c k z1 z2 => by rw [rpu_ne z1 (by omega), up_ne (by omega)], by rw [rpu_ne (by omega) (by omega), up_same]⟩
/-- this -/
theorem I_3 (hP : PRG F n N P s0 t0 K U W Y A I C p w tr t1 t2 t3) (h : SIM F P s0 t0 K U W A t3 fu s t (u, i, pv, vv, st, ob) g) (hr : (A.getD u []).getD i (0, 0, 0, 0) = r) (hk : r.1 = 3) : STP F P s0 t0 K U W A t3 fu s t ((u, i, pv, vv, st, ob) :: g) := by
  obtain ⟨it, k5, e98, ⟨hu, hi⟩, rq, el, b3⟩ := SIM_k hP h hr
  have so := (PRG_th hP hu hi hr).1 hk
  have h10 := h.2.2.2.2.2.1.2.2 so
  have w6 : w16 ob := h.2.1.1.2.2.1.2.2.2
  have e183 : t 183 g.length = ob := h.2.1.1.2.2.2.2.2.1
  have e88 : t 121 88 = ((g.length + 1 : Nat) : Int) := h.2.2.2.2.1.2.1
  have g40 : g.length + 1 ≤ 40 := h.2.2.2.2.1.2.2.1
  refine I_push (a := 6) (b := 0) (c := 0) (v := ob) (v' := ob) hP h hr (by omega) ?_ (by decide) (fun q hq => ?_) w6 ?_ (i_s_id w6)
  · unfold emU emI
    rw [hk]
    simp only [Int.reduceEq, ↓reduceIte]
  · rw [v_ptr (Or.inl rfl), if_pos rfl, hq 51 10 (by omega)]
    exact congrArg (fun z => some (z, q)) h10
  · unfold m_doItem
    rw [lt_eq, e98, gd_pos (by omega), Int.toNat_natCast, up_ne (by omega), it.1, hk, gr (by omega)]
    simp only [Int.reduceEq, ↓reduceIte]
    rw [up_ne (by omega), e88, gd_pos (by omega), show ((g.length + 1 : Nat) : Int) - 1 = (g.length : Int) by omega, Int.toNat_natCast, up_ne (by omega), e183]
theorem PRG_0 (h : PRG F n N P s0 t0 K U W Y A I C p w tr t1 t2 t3) (hu : u < A.length) (hi : i < (A.getD u []).length) (hr : (A.getD u []).getD i (0, 0, 0, 0) = r) (hk : r.1 = 0) : -1 ≤ r.2.1 ∧ r.2.1 ≤ 32767 := by
  obtain ⟨pf, -, a2, -, -, -, -⟩ := AOK_it h.2.1
  obtain ⟨-, -, -, -, r5, -, -⟩ := (a2 u hu).1 _ (gd_mem (d := ((0, 0, 0, 0) : itm)) hi)
  rw [hr] at r5
  exact r5 hk
/-- a number -/
theorem I_0 (hP : PRG F n N P s0 t0 K U W Y A I C p w tr t1 t2 t3) (h : SIM F P s0 t0 K U W A t3 fu s t (u, i, pv, vv, st, ob) g) (hr : (A.getD u []).getD i (0, 0, 0, 0) = r) (hk : r.1 = 0) : STP F P s0 t0 K U W A t3 fu s t ((u, i, pv, vv, st, ob) :: g) := by
  obtain ⟨it, k5, e98, ⟨hu, hi⟩, rq, el, b3⟩ := SIM_k hP h hr
  obtain ⟨n1, n2⟩ := PRG_0 hP hu hi hr hk
  have w6 : w16 r.2.1 := ⟨by omega, by omega⟩
  have e145 := (it.2.2.1 hk).1
  have hR : m_doItem t = bd (m_put r.2.1 (up t 121 98 (t 121 98 + 1))) (fun _ s5 => some (0, s5)) := by
    unfold m_doItem
    rw [lt_eq, e98, gd_pos (by omega), Int.toNat_natCast, up_ne (by omega), it.1, hk, gr (by omega)]
    simp only [Int.reduceEq, ↓reduceIte]
    rw [up_ne (by omega), e145]
  by_cases c : r.2.1 = -1
  · obtain ⟨L1, L2⟩ := SIM_len hP h
    have L1' : (csG U g ++ (preF U (u, i, pv, vv, st, ob) ++ pv ++ vv ++ st)).length ≤ 15360 := L1
    have rt := h.2.2.1.2
    obtain ⟨mm, g1⟩ := h.1.1
    have he : emU F P s0 t0 K U W u r = [(0, 0, 0, 0), (7, 0, 0, 0)] := by
      unfold emU emI
      rw [if_pos hk, if_pos c]
    refine STP_stk (st' := st ++ [-1]) hP h hr (by omega) (fun x hx => ?_) ?_ (fun sB m1 m2 m4 => ?_) ?_
    · rcases List.mem_append.mp hx with z | z
      · exact b3 x z
      · rw [List.mem_singleton.mp z]; decide
    · rw [List.length_append, List.length_singleton, el]
      unfold nxA
      dsimp only
      rw [if_pos (by omega)]
    · obtain ⟨q1, q2⟩ := SIM_q h m4 (v := ((cpo F P s0 t0 K U W A u i + 1 : Nat) : Int))
      have e4 := fetch4 (m := 0) (x := (0, 0, 0, 0)) g1 hu hi hr (by rw [he]; simp) (by rw [he]; rfl) (by simp) (by simp) (by simp) (by simp)
      obtain ⟨s1, d1, d2, d3⟩ := c_push (a := 0) (b := 0) (c := 0) (v := 0) q1 (by omega) q2 v_con
      have t1 := step0 h hr m1 (by rw [he]; simp) (x := (0, 0, 0, 0)) (by rw [he]; rfl) (by rw [Nat.add_zero] at e4; rw [e4]; exact d1)
      have c1 := CX_fs d3
      have e4' := fetch4 (m := 1) (x := (7, 0, 0, 0)) g1 hu hi hr (by rw [he]; simp) (by rw [he]; rfl) (by simp) (by simp) (by simp) (by simp)
      have s2 : STK (up s1 51 7 ((cpo F P s0 t0 K U W A u i + (1 + 1) : Nat) : Int)) ((csG U g ++ (preF U (u, i, pv, vv, st, ob) ++ pv ++ vv ++ st)) ++ [0]) := STK_of d2 (up_ne (by omega)) (funext fun k => up_ne (by omega))
      have nf1 := nf_fs q2 d3
      have nf2 : nf (up s1 51 7 ((cpo F P s0 t0 K U W A u i + (1 + 1) : Nat) : Int)) := ⟨by rw [up_ne (by omega)]; exact nf1.1, by rw [up_ne (by omega)]; exact nf1.2⟩
      obtain ⟨s3, d4, d5, d6⟩ := c_one (k := 7) (a := 0) (b := 0) (c := 0) (Or.inr rfl) s2 (by omega) nf2 (by decide)
      have t2 := stepm (m := 1) h hr m1 m2 m4 (by decide) c1 (by rw [he]; simp) (x := (7, 0, 0, 0)) (by rw [he]; rfl) (by rw [e4']; exact d4)
      refine ⟨s3, ?_, ?_, ?_⟩
      · rw [he]; exact TN_add t1 t2
      · have e : (if (7 : Int) = 4 then i_s (-0) else i_xor 0 (-1)) = -1 := by decide
        rw [e] at d5
        simpa [List.append_assoc] using d5
      · rw [he]; exact CX_fs2 c1 d6
    · obtain ⟨r1, r2⟩ := rput_ok (v := r.2.1) (RTK_98 (z := t 121 98 + 1) rt) (by omega)
      rw [i_s_id w6, c] at r1 r2
      refine ⟨_, by rw [hR, c, r1, bq], by rw [← List.append_assoc]; exact r2, fun c k z1 z2 => by rw [rpu_ne z1 (by omega), up_ne (by omega)], by rw [rpu_ne (by omega) (by omega), up_same]⟩
  · refine I_push (a := 0) (b := r.2.1) (c := 0) (v := r.2.1) (v' := r.2.1) hP h hr (by omega) ?_ (by decide) (fun q hq => v_con) w6 hR (i_s_id w6)
    unfold emU emI
    rw [if_pos hk, if_neg c]
end RNm
