/-! the class's FUNCTION command -/
section ROg
variable {q : iS} {nv : Nat}
theorem mlo_ok (hn : nv ≤ 100) : ∀ (n j : Nat) (q : iS) (L : List Int), j + n = nv → STK q L → L.length + n ≤ 16000 → ∃ s', mac_makeLocals_10 (nv : Int) (j : Int) q = some (0, s') ∧ STK s' (L ++ List.replicate n 0) ∧ FS q s'
  | 0, j, q, L, h, hs, _ => by
    refine ⟨q, ?_, by simpa using hs, FS_refl⟩
    unfold mac_makeLocals_10
    rw [lp_end (f := fun l : Int × iS => mac_makeLocals_10b (nv : Int) (l.1) (l.2)) (e := q) (by
      show mac_makeLocals_10b (nv : Int) (j : Int) q = _
      unfold mac_makeLocals_10b
      rw [gr (by omega), gr (by omega), if_pos (by omega)])]
    rfl
  | n + 1, j, q, L, h, hs, hl => by
    obtain ⟨s1, a1, a2, a3⟩ := push_ex (v := 0) hs (by omega)
    obtain ⟨s', i1, i2, i3⟩ := mlo_ok hn n (j + 1) s1 (L ++ [0]) (by omega) a2 (by rw [List.length_append, List.length_singleton]; omega)
    refine ⟨s', ?_, ?_, FS_trans a3 i3⟩
    · rw [← i1]
      unfold mac_makeLocals_10
      rw [lp_next (f := fun l : Int × iS => mac_makeLocals_10b (nv : Int) (l.1) (l.2)) (l' := (((j + 1 : Nat) : Int), s1)) (by
        show mac_makeLocals_10b (nv : Int) (j : Int) q = _
        unfold mac_makeLocals_10b
        rw [gr (by omega), gr (by omega), if_neg (by omega), a1, bq, show (j : Int) + 1 = ((j + 1 : Nat) : Int) by omega])]
    · rw [List.append_assoc, List.singleton_append, ← List.replicate_succ] at i2
      exact i2
/-- FUNCTION -/
theorem c_fun {L : List Int} {a c : Int} (hn : nv ≤ 100) (hs : STK q L) (hl : L.length + nv ≤ 16000) (hf : nf q) : ∃ s', mac_doCommand 14 a (nv : Int) c q = some (0, s') ∧ STK s' (L ++ List.replicate nv 0) ∧ s' 51 9 = (L.length : Int) ∧ ∀ c k, c ≠ 52 → ¬ (c = 51 ∧ (k = 6 ∨ k = 9)) → s' c k = q c k := by
  obtain ⟨s', a1, a2, a3⟩ := mlo_ok hn nv 0 (up q 51 9 (L.length : Int)) L (by omega) (STK_of hs (up_ne (by omega)) (funext fun k => up_ne (by omega))) hl
  have fs : ∀ c k, c ≠ 52 → ¬ (c = 51 ∧ (k = 6 ∨ k = 9)) → s' c k = q c k := fun c k z1 z2 => by rw [a3 c k z1 (by omega), up_ne (by omega)]
  refine ⟨s', ?_, a2, by rw [a3 51 9 (by omega) (by omega), up_same], fs⟩
  unfold mac_doCommand mac_makeLocals
  simp only [Int.reduceEq, ↓reduceIte]
  rw [gr (by omega), lt_eq, hs.1]
  rw [show ((0 : Nat) : Int) = 0 from rfl] at a1
  rw [a1, bq, d258 (by rw [fs 44 5 (by omega) (by omega)]; exact hf.1) (by rw [fs 48 9 (by omega) (by omega)]; exact hf.2)]
end ROg
section ROh
variable {F : Nat → Int} {P : Nat → Nat} {s0 t0 : iS} {K : List Nat} {U : List urec} {W : List wrec} {A : List (List itm)} {u m : Nat} {s s' q : iS} {x : crc}
/-- a command of a sub's head -/
theorem fetchh {mm rr : Int} (hG : CPG F P s0 t0 K U W A mm s) (hu : u < A.length) (hm : m < (hdU K U W u).length) (hx : (hdU K U W u).getD m (0, 0, 0, 0) = x) (ce : ∀ c k, 14 ≤ c → c ≤ 19 → q c k = s c k) (h14 : q 51 14 = -1) (h7 : q 51 7 = (((cmN F P s0 t0 K U W A u).length + m : Nat) : Int)) (h16 : 0 ≤ q 51 16 ∧ q 51 16 ≤ 5000) (h15 : 0 ≤ q 51 15 ∧ q 51 15 ≤ 5000) (hd : mac_doCommand x.1 x.2.1 x.2.2.1 (s 18 ((cmN F P s0 t0 K U W A u).length + m)) (up q 51 7 ((((cmN F P s0 t0 K U W A u).length + m : Nat) : Int) + 1)) = some (rr, s')) : TN 1 q s' := by
  obtain ⟨g1, g2, g3, g4⟩ := hG
  obtain ⟨c1, c2⟩ := cM_hd (F := F) (P := P) (s0 := s0) (t0 := t0) (K := K) (U := U) (W := W) hu hm
  rw [hx] at c2
  obtain ⟨e1, e2, e3, e4, e5, e6, e7⟩ := g3 _ c1
  rw [c2] at e1 e2 e3 e4
  refine turn (q := (cmN F P s0 t0 K U W A u).length + m) h14 h7 ((ce 14 8 (by omega) (by omega)).trans g1) g2 c1 (mk := -1) ?_ (Or.inl ⟨rfl, rfl⟩) h16 h15 (r := rr) ?_
  · rw [ce 19 _ (by omega) (by omega), e4]
  · rw [ce 15 _ (by omega) (by omega), ce 16 _ (by omega) (by omega), ce 17 _ (by omega) (by omega), ce 18 _ (by omega) (by omega), e1, e2, e3]
    exact hd
theorem fetchh4 {mm : Int} (hG : CPG F P s0 t0 K U W A mm s) (hu : u < A.length) (hm : m < (hdU K U W u).length) (hx : (hdU K U W u).getD m (0, 0, 0, 0) = x) (h9 : x.2.2.2 ≠ -9) (h15 : ¬ (x.1 = 15 ∧ 800 ≤ x.2.1)) : s 18 ((cmN F P s0 t0 K U W A u).length + m) = x.2.2.2 := by
  obtain ⟨g1, g2, g3, g4⟩ := hG
  obtain ⟨c1, c2⟩ := cM_hd (F := F) (P := P) (s0 := s0) (t0 := t0) (K := K) (U := U) (W := W) hu hm
  rw [hx] at c2
  obtain ⟨e1, e2, e3, e4, e5, e6, e7⟩ := g3 _ c1
  rw [c2] at e6
  exact e6 h9 h15
end ROh
