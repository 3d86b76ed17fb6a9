/-! signs -/
def QF (s : iS) : Prop := FT s ∧ RK s ∧ BY (s 123)
theorem QF_on : on [57, 58, 60, 61, 63, 64, 66, 67, 68, 123] [(56, 2), (59, 2), (62, 2), (65, 2)] QF := by
  intro s s' h1 h2 h
  have r : ∀ c, c ∈ [57, 58, 60, 61, 63, 64, 66, 67, 68, 123] → s' c = s c := h1
  have p : ∀ q, q ∈ [(56, 2), (59, 2), (62, 2), (65, 2)] → s' q.1 q.2 = s q.1 q.2 := h2
  have p1 := p (56, 2) (by decide)
  have p2 := p (59, 2) (by decide)
  have p3 := p (62, 2) (by decide)
  have p4 := p (65, 2) (by decide)
  simp only at p1 p2 p3 p4
  unfold QF FT TB RK at h ⊢
  rw [p1, p2, p3, p4, r 57 (by decide), r 58 (by decide), r 60 (by decide), r 61 (by decide), r 63 (by decide), r 64 (by decide), r 66 (by decide), r 67 (by decide), r 68 (by decide), r 123 (by decide)]
  exact h
theorem QF_mx {s t : iS} (h : QF (mx s t)) : FT s ∧ RK s ∧ BY (t 123) := h
theorem mx_QF {s t : iS} (h : FT s ∧ RK s ∧ BY (t 123)) : QF (mx s t) := h
section SS
variable {n : Nat} {s t : iS}
theorem rsX_row {c : Nat} (h1 : c ≠ 55) (h2 : c ≠ 65) (h3 : c ≠ 70) : rsX s c = s c := by
  unfold rsX
  rw [up_cell h1, up_cell h1, up_cell h1, up_cell h1, up_cell h1, up_cell h1, up_cell h1, up_cell h2, sr_ne h3]
theorem rsP_row {c : Nat} (h1 : c ≠ 121) (h2 : c ≠ 194) : rsP t c = t c := by
  unfold rsP
  rw [up_cell h1, up_cell h1, up_cell h1, up_cell h1, up_cell h1, up_cell h1, sr_ne h2]
theorem RA_0 {s3 t3 : iS} (h : RK s) (a1 : s3 55 8 = 0) (b1 : t3 121 110 = 0) (b2 : t3 121 112 = 0) (a2 : s3 65 2 = 23) (a3 : s3 66 = s 66) (a4 : s3 67 = s 67) (a5 : s3 68 = s 68) : RA n [] 0 (-1) s3 t3 := by
  obtain ⟨y, h1, h2, h3⟩ := h
  refine ⟨⟨a1, b1, by omega⟩, ⟨Nat.zero_le _, b2, fun w hw => absurd hw (List.not_mem_nil)⟩, ⟨?_, fun i hi => ?_⟩, fun k hk => ?_, fun j hj => absurd hj (Nat.not_lt_zero _), fun i hi => absurd hi (Nat.not_lt_zero _), fun i hi => absurd hi (Nat.not_lt_zero _), fun j hj => absurd hj (Nat.not_lt_zero _)⟩
  · rw [List.append_nil, tK_len, a2]
    rfl
  · rw [List.append_nil] at hi ⊢
    rw [tK_len] at hi
    rw [a3, a4]
    exact ⟨(h3 i hi).1, (h3 i hi).2.1⟩
  · rw [a5]
    exact (h3 k hk).2.2
theorem signs_ok (B a : Int) (hB : 0 ≤ B) (ha : rg a) (s t : iS) (hT : QT (mx s t)) (hP : QP (mx s t)) (hW : QW (mx s t)) (hR : QR B (mx s t)) (hF : QF (mx s t)) : ∃ r s' t', x_signs a s = some (r, s') ∧ m_signs a t = some (r, t') ∧ rg r ∧ QT (mx s' t') ∧ QP (mx s' t') ∧ QW (mx s' t') ∧ QR B (mx s' t') ∧ QF (mx s' t') := by
  have hT' : RTv (s 0 1) (t 121 1) (s 1) (t 122) := hT
  obtain ⟨T1, T2, T3, T4, T5, T6⟩ := hT'
  have hR' : RRv B (s 55 9) (s 55 10) (s 55 11) (s 55 12) (s 70) (t 121 118) (t 121 119) (t 121 120) (t 121 121) (t 194) := hR
  obtain ⟨F1, F2, F3⟩ := QF_mx hF
  by_cases c : a < 0 ∨ t 121 1 < a
  · refine ⟨-1, s, t, ?_, ?_, by decide, hT, hP, hW, hR, hF⟩
    · unfold x_signs
      rw [gd_pos ha]
      by_cases c1 : a < 0
      · rw [if_pos c1]
      · rw [if_neg c1, gr (by omega), if_neg (by omega)]
    · unfold m_signs
      rw [takes0 ha c ⟨by omega, by omega⟩, bq, gr (by omega), if_pos rfl]
  obtain ⟨n, rfl⟩ : ∃ n : Nat, a = (n : Int) := ⟨a.toNat, by omega⟩
  have hn : n ≤ 4000 := by omega
  -- the class's start
  have K5 : RK (up s 0 1 0) := RK_of F2 (by rw [up_cell (by decide)]) (up_cell (by decide)) (up_cell (by decide)) (up_cell (by decide))
  generalize h3 : up (rsX (up s 0 1 0)) 55 13 (n : Int) = s3
  have r3 : ∀ c, c ≠ 0 → c ≠ 55 → c ≠ 65 → c ≠ 70 → s3 c = s c := fun c c0 c1 c2 c3 => by rw [← h3, up_cell c1, rsX_row c1 c2 c3, up_cell c0]
  have x_eq : x_signs (n : Int) s = bd (pro_assemble_21 0 0 s3) (fun r6 s6 => lt' (up s6 0 2 (s6 55 15)) (fun s7 => some (r6, s7))) := by
    unfold x_signs pro_assemble
    rw [gr (by omega), if_neg (by omega), gr (by omega), if_pos (by omega), lt_eq, prs_ok K5, bq, min_ok ⟨by omega, by omega⟩ (by decide), bq, if_neg (by omega), lt_eq, h3]
  -- the reference's start
  generalize g1 : up (sr (up t 121 3 (n : Int)) 123 (fun j => if j < n then t 122 j else t 123 j)) 121 1 0 = t1
  generalize g3 : up (rsP t1) 121 4 (-1) = t3
  have t1r : ∀ c, c ≠ 121 → c ≠ 123 → t1 c = t c := fun c c1 c2 => by rw [← g1, up_cell c1, sr_ne c2, up_cell c1]
  have t1_123 : t1 123 = fun j => if j < n then t 122 j else t 123 j := by
    rw [← g1, up_cell (by decide)]
    funext j
    rw [sr_at]
  have m_eq : m_signs (n : Int) t = m_signs_23 0 0 t3 := by
    unfold m_signs
    rw [takes2 (by omega) (by omega), bq, gr (by omega), if_neg (by omega), g1, mrs_ok, bq, lt_eq, g3]
  have t3r : ∀ c, c ≠ 121 → c ≠ 194 → t3 c = t1 c := fun c c1 c2 => by rw [← g3, up_cell c1, rsP_row c1 c2]
  have t3_123 : t3 123 = fun j => if j < n then t 122 j else t 123 j := by rw [t3r 123 (by decide) (by decide), t1_123]
  have t3_3 : t3 121 3 = (n : Int) := by rw [← g3, ← g1]; simp [rsP, up_at, sr]
  have t3_1 : t3 121 1 = 0 := by rw [← g3, ← g1]; simp [rsP, up_at, sr]
  have t3_4 : t3 121 4 = -1 := by rw [← g3]; exact up_same _ _ _ _
  have t3_110 : t3 121 110 = 0 := by rw [← g3]; simp [rsP, up_at]
  have t3_112 : t3 121 112 = 0 := by rw [← g3]; simp [rsP, up_at]
  have t3_118 : t3 121 118 = 0 := by rw [← g3]; simp [rsP, up_at]
  have t3_119 : t3 121 119 = 0 := by rw [← g3]; simp [rsP, up_at]
  have t3_120 : t3 121 120 = 0 := by rw [← g3]; simp [rsP, up_at]
  have t3_121 : t3 121 121 = 0 := by rw [← g3]; simp [rsP, up_at]
  have t3_194 : ∀ i, t3 194 i = if i < 32768 then 0 else t 194 i := fun i => by rw [← g3, ← g1]; simp [rsP, up_at, sr]
  have s3_8 : s3 55 8 = 0 := by rw [← h3]; simp [rsX, up_at]
  have s3_9 : s3 55 9 = 0 := by rw [← h3]; simp [rsX, up_at]
  have s3_10 : s3 55 10 = 0 := by rw [← h3]; simp [rsX, up_at]
  have s3_11 : s3 55 11 = 0 := by rw [← h3]; simp [rsX, up_at]
  have s3_12 : s3 55 12 = 0 := by rw [← h3]; simp [rsX, up_at]
  have s3_13 : s3 55 13 = (n : Int) := by rw [← h3]; exact up_same _ _ _ _
  have s3_14 : s3 55 14 = 0 := by rw [← h3]; simp [rsX, up_at]
  have s3_15 : s3 55 15 = -1 := by rw [← h3]; simp [rsX, up_at]
  have s3_65 : s3 65 2 = 23 := by rw [← h3]; simp [rsX, up_at]
  have s3_0 : s3 0 1 = 0 := by rw [← h3, up_cell (by decide), rsX_row (by decide) (by decide) (by decide), up_same]
  have s3_70 : ∀ i, s3 70 i = if i < 32768 then 0 else s 70 i := fun i => by rw [← h3]; simp [rsX, up_at, sr]
  have BT : BY (t3 123) := by
    intro k
    rw [t3_123]
    simp only
    split
    · exact T6 k
    · exact F3 k
  have QR3 : QR 0 (mx s3 t3) := by
    show RRv 0 (s3 55 9) (s3 55 10) (s3 55 11) (s3 55 12) (s3 70) (t3 121 118) (t3 121 119) (t3 121 120) (t3 121 121) (t3 194)
    rw [s3_9, s3_10, s3_11, s3_12, t3_118, t3_119, t3_120, t3_121]
    refine ⟨rfl, rfl, rfl, rfl, by omega, by omega, by omega, by omega, fun i => ?_⟩
    rw [s3_70, t3_194]
    have := hR'.2.2.2.2.2.2.2.2 i
    split
    · omega
    · exact this
  have FT3 : FT s3 := ⟨TB_of F1.1 (r3 _ (by decide) (by decide) (by decide) (by decide)) (r3 _ (by decide) (by decide) (by decide) (by decide)) (r3 _ (by decide) (by decide) (by decide) (by decide)), TB_of F1.2.1 (r3 _ (by decide) (by decide) (by decide) (by decide)) (r3 _ (by decide) (by decide) (by decide) (by decide)) (r3 _ (by decide) (by decide) (by decide) (by decide)), TB_of F1.2.2 (r3 _ (by decide) (by decide) (by decide) (by decide)) (r3 _ (by decide) (by decide) (by decide) (by decide)) (r3 _ (by decide) (by decide) (by decide) (by decide))⟩
  have s3_1 : s3 1 = s 1 := r3 1 (by decide) (by decide) (by decide) (by decide)
  have LI3 : LI n s3 t3 := ⟨s3_13, t3_3, by rw [s3_1]; exact T5, BT, fun j hj => by rw [s3_1, t3_123]; simp only; rw [if_pos hj]; exact T4 j (by omega), FT3, s3_0, t3_1, t3_4, QR3⟩
  have RA3 : RA n [] 0 (-1) s3 t3 := RA_0 F2 s3_8 t3_110 t3_112 s3_65 (r3 _ (by decide) (by decide) (by decide) (by decide)) (r3 _ (by decide) (by decide) (by decide) (by decide)) (r3 _ (by decide) (by decide) (by decide) (by decide))
  obtain ⟨s4, t4, e1, e2⟩ := asm_ok hn n 0 0 [] 0 s3 t3 (by omega) (by omega) LI3 RA3 s3_14 s3_15 (by omega) (by omega)
  have e1' : lp (L := Int × Int × iS) (E := iS) (fun l => pro_assemble_21b (l.1) (l.2.1) (l.2.2)) (0, 0, s3) = some s4 := e1
  have x2 : x_signs (n : Int) s = bd (pro_assemble_56 s4) (fun r6 s6 => lt' (up s6 0 2 (s6 55 15)) (fun s7 => some (r6, s7))) := by
    rw [x_eq]
    unfold pro_assemble_21
    rw [e1', bn]
  -- what is left when both ends are known
  have fin : ∀ (r : Int) (s' t' : iS), x_signs (n : Int) s = some (r, s') → m_signs (n : Int) t = some (r, t') → rg r → s' 0 1 = 0 → t' 121 1 = 0 → QP (mx s' t') → QW (mx s' t') → QR 0 (mx s' t') → RK s' → BY (t' 123) → ∃ r s' t', x_signs (n : Int) s = some (r, s') ∧ m_signs (n : Int) t = some (r, t') ∧ rg r ∧ QT (mx s' t') ∧ QP (mx s' t') ∧ QW (mx s' t') ∧ QR B (mx s' t') ∧ QF (mx s' t') := by
    intro r s' t' a1 a2 a3 a4 a5 a6 a7 a8 a9 a10
    have fx := fx_signs (n : Int) s _ a1
    have fm := fm_signs (n : Int) t _ a2
    simp only at fx fm
    refine ⟨r, s', t', a1, a2, a3, ?_, a6, a7, ?_, ?_⟩
    · show RTv (s' 0 1) (t' 121 1) (s' 1) (t' 122)
      rw [a4, a5, md_row fx (show 1 ∉ L_x_signs by decide) (by decide), md_row fm (show 122 ∉ L_m_signs by decide) (by decide)]
      exact ⟨rfl, by omega, by omega, fun i hi => by omega, T5, T6⟩
    · have q : RRv 0 (s' 55 9) (s' 55 10) (s' 55 11) (s' 55 12) (s' 70) (t' 121 118) (t' 121 119) (t' 121 120) (t' 121 121) (t' 194) := a8
      show RRv B (s' 55 9) (s' 55 10) (s' 55 11) (s' 55 12) (s' 70) (t' 121 118) (t' 121 119) (t' 121 120) (t' 121 121) (t' 194)
      obtain ⟨q1, q2, q3, q4, q5, q6, q7, q8, q9⟩ := q
      exact ⟨q1, q2, q3, q4, q5, q6, q7, by omega, q9⟩
    · exact mx_QF ⟨⟨TB_of F1.1 (md_row fx (by decide) (by decide)) (md_row fx (by decide) (by decide)) (md_row fx (by decide) (by decide)), TB_of F1.2.1 (md_row fx (by decide) (by decide)) (md_row fx (by decide) (by decide)) (md_row fx (by decide) (by decide)), TB_of F1.2.2 (md_row fx (by decide) (by decide)) (md_row fx (by decide) (by decide)) (md_row fx (by decide) (by decide))⟩, a9, a10⟩
  rcases e2 with ⟨b1, b2, b3, b4, own, m, b5⟩ | ⟨bad, pl, b1, b2, b3, b4, b5, b6, b7⟩
  · -- the text was good
    obtain ⟨s5, c1, c2, c3, c4⟩ := pse_ok b5
    obtain ⟨t5, d1, d2, d3⟩ := mst_ok b5
    have b1' : lp (L := Int × Int × iS) (E := (Int × Int × iS) ⊕ (iS)) (fun l => m_signs_23b (l.1) (l.2.1) (l.2.2)) (0, 0, t3) = some (.inr t4) := b1
    obtain ⟨i1, i2, i3, i4, i5, i6, i7, i8, i9, i10⟩ := b4
    have X : x_signs (n : Int) s = some (0, up s5 0 2 (-1)) := by
      rw [x2]
      unfold pro_assemble_56
      rw [gr (by omega), if_pos b2, c1, bq, bq, lt_eq, c4 55 14 (by decide) (by decide), c4 55 15 (by decide) (by decide), b2, b3]
    have M : m_signs (n : Int) t = some (0, t5) := by
      rw [m_eq]
      unfold m_signs_23
      rw [b1', bn]
      exact d1
    obtain ⟨⟨k1, k2, k3⟩, ⟨k4, k5, k6⟩, ⟨k7, k8⟩, k9, k10, k11, _⟩ := id b5
    have q5 : ∀ c, c ≠ 0 → up s5 0 2 (-1) c = s5 c := fun c hc => up_cell hc
    refine fin 0 _ _ X M (by decide) ?_ ?_ ?_ ?_ ?_ ?_ ?_
    · rw [up_ne (by omega), c4 0 1 (by decide) (by decide)]; exact i7
    · rw [d3 121 1 (by decide) (by decide)]; exact i8
    · show up s5 0 2 (-1) 0 2 = t5 121 4 ∧ rg (up s5 0 2 (-1) 0 2)
      rw [up_same, d3 121 4 (by decide) (by decide), i9]
      exact ⟨rfl, by decide⟩
    · show RWv (up s5 0 2 (-1) 55 8) (up s5 0 2 (-1) 65 2) (up s5 0 2 (-1) 69) (t5 121 110) (t5 121 112) (t5 189)
      rw [q5 55 (by decide), q5 65 (by decide), q5 69 (by decide), c4 55 8 (by decide) (by decide), c4 65 2 (by decide) (by decide), d3 121 110 (by decide) (by decide), d3 121 112 (by decide) (by decide), k1, k2, k5, k7, List.length_append, tK_len]
      refine ⟨rfl, by omega, by omega, by omega, fun i hi => ?_⟩
      rw [c2 i (by omega), d2 i (by omega)]
      refine ⟨rfl, ?_⟩
      unfold FW
      have w := k11 i (by omega)
      rcases w with ⟨w1, ⟨w2, w3⟩ | ⟨k, w2, w3, w4⟩⟩ | ⟨j, w1, w2, w3⟩
      · rw [if_pos w1]; exact w3
      · rw [if_pos w1, w4]
        have := kv_rg k w2
        omega
      · have := fv_rg (va := t4 192) (j := j) (by omega) (k10 j w1).2.2.2
        rw [if_neg (by omega), w3, Int.toNat_natCast]
        omega
    · have q : RRv 0 (s4 55 9) (s4 55 10) (s4 55 11) (s4 55 12) (s4 70) (t4 121 118) (t4 121 119) (t4 121 120) (t4 121 121) (t4 194) := i10
      show RRv 0 (up s5 0 2 (-1) 55 9) (up s5 0 2 (-1) 55 10) (up s5 0 2 (-1) 55 11) (up s5 0 2 (-1) 55 12) (up s5 0 2 (-1) 70) (t5 121 118) (t5 121 119) (t5 121 120) (t5 121 121) (t5 194)
      have z70 : s5 70 = s4 70 := funext (fun k => c4 70 k (by decide) (by decide))
      have z194 : t5 194 = t4 194 := funext (fun k => d3 194 k (by decide) (by decide))
      rw [q5 55 (by decide), q5 70 (by decide), c4 55 9 (by decide) (by decide), c4 55 10 (by decide) (by decide), c4 55 11 (by decide) (by decide), c4 55 12 (by decide) (by decide), d3 121 118 (by decide) (by decide), d3 121 119 (by decide) (by decide), d3 121 120 (by decide) (by decide), d3 121 121 (by decide) (by decide), z70, z194]
      exact q
    · have rk := RA_RK b5
      obtain ⟨y, y1, y2, y3⟩ := rk
      refine ⟨y, ?_, y2, fun i hi => ?_⟩
      · rw [q5 65 (by decide), c4 65 2 (by decide) (by decide)]; exact y1
      · rw [q5 66 (by decide), q5 67 (by decide), q5 68 (by decide), c4 66 i (by decide) (by decide), c4 67 i (by decide) (by decide), c3 i hi]
        exact ⟨(y3 i hi).1, (y3 i hi).2.1, rfl⟩
    · have : t5 123 = t4 123 := funext (fun k => d3 123 k (by decide) (by decide))
      rw [this]
      exact i4
  · -- it was refused
    have b1' : lp (L := Int × Int × iS) (E := (Int × Int × iS) ⊕ (iS)) (fun l => m_signs_23b (l.1) (l.2.1) (l.2.2)) (0, 0, t3) = some (.inl (pl, bad, t4)) := b1
    obtain ⟨i1, i2, i3, i4, i5, i6, i7, i8, i9, i10⟩ := b6
    obtain ⟨y, y1, y2, y3⟩ := id b7
    have X : x_signs (n : Int) s = some (bad, up (up (up s4 55 8 0) 65 2 23) 0 2 pl) := by
      rw [x2]
      unfold pro_assemble_56
      rw [gr (by omega), if_neg (by omega), lt_eq, show (23 : Int) = ((23 : Nat) : Int) from rfl, keep_ok (m := 23 + y) (by rw [up_cell (by decide), y1]; omega) (by omega) (by omega), bq, bq, lt_eq, show min (23 + y) 23 = 23 by omega]
      have v1 : up (up s4 55 8 0) 65 2 ((23 : Nat) : Int) 55 15 = pl := by rw [up_cell (by decide), up_ne (by omega)]; exact b4
      have v2 : up (up s4 55 8 0) 65 2 ((23 : Nat) : Int) 55 14 = bad := by rw [up_cell (by decide), up_ne (by omega)]; exact b3
      rw [v1, v2]
    have M : m_signs (n : Int) t = some (bad, up (up (up t4 121 4 pl) 121 110 0) 121 112 0) := by
      rw [m_eq]
      unfold m_signs_23
      rw [b1', bn]
      rfl
    have q5 : ∀ c, c ≠ 0 → c ≠ 55 → c ≠ 65 → up (up (up s4 55 8 0) 65 2 23) 0 2 pl c = s4 c := fun c h1 h2 h3 => by rw [up_cell h1, up_cell h3, up_cell h2]
    have q6 : ∀ c, c ≠ 121 → up (up (up t4 121 4 pl) 121 110 0) 121 112 0 c = t4 c := fun c h1 => by rw [up_cell h1, up_cell h1, up_cell h1]
    refine fin bad _ _ X M ⟨by omega, by omega⟩ ?_ ?_ ?_ ?_ ?_ ?_ ?_
    · rw [up_ne (by omega), up_cell (by decide), up_cell (by decide)]; exact i7
    · rw [up_ne (by omega), up_ne (by omega), up_ne (by omega)]; exact i8
    · show up (up (up s4 55 8 0) 65 2 23) 0 2 pl 0 2 = up (up (up t4 121 4 pl) 121 110 0) 121 112 0 121 4 ∧ rg (up (up (up s4 55 8 0) 65 2 23) 0 2 pl 0 2)
      rw [up_same, up_ne (by omega), up_ne (by omega), up_same]
      exact ⟨rfl, by omega, by omega⟩
    · show RWv (up (up (up s4 55 8 0) 65 2 23) 0 2 pl 55 8) (up (up (up s4 55 8 0) 65 2 23) 0 2 pl 65 2) (up (up (up s4 55 8 0) 65 2 23) 0 2 pl 69) (up (up (up t4 121 4 pl) 121 110 0) 121 112 0 121 110) (up (up (up t4 121 4 pl) 121 110 0) 121 112 0 121 112) (up (up (up t4 121 4 pl) 121 110 0) 121 112 0 189)
      rw [up_same, up_ne (show ¬ (121 = 121 ∧ 110 = 112) by omega), up_same, up_cell (show 65 ≠ 0 by decide), up_same, up_cell (show 55 ≠ 0 by decide), up_cell (show 55 ≠ 65 by decide), up_same]
      exact ⟨rfl, by omega, by omega, by omega, fun i hi => by omega⟩
    · have q : RRv 0 (s4 55 9) (s4 55 10) (s4 55 11) (s4 55 12) (s4 70) (t4 121 118) (t4 121 119) (t4 121 120) (t4 121 121) (t4 194) := i10
      have p55 : ∀ k, k ≠ 8 → up (up (up s4 55 8 0) 65 2 23) 0 2 pl 55 k = s4 55 k := fun k hk => by rw [up_cell (by decide), up_cell (by decide), up_ne (by omega)]
      have p121 : ∀ k, k ≠ 4 → k ≠ 110 → k ≠ 112 → up (up (up t4 121 4 pl) 121 110 0) 121 112 0 121 k = t4 121 k := fun k k1 k2 k3 => by rw [up_ne (by omega), up_ne (by omega), up_ne (by omega)]
      show RRv 0 (up (up (up s4 55 8 0) 65 2 23) 0 2 pl 55 9) (up (up (up s4 55 8 0) 65 2 23) 0 2 pl 55 10) (up (up (up s4 55 8 0) 65 2 23) 0 2 pl 55 11) (up (up (up s4 55 8 0) 65 2 23) 0 2 pl 55 12) (up (up (up s4 55 8 0) 65 2 23) 0 2 pl 70) (up (up (up t4 121 4 pl) 121 110 0) 121 112 0 121 118) (up (up (up t4 121 4 pl) 121 110 0) 121 112 0 121 119) (up (up (up t4 121 4 pl) 121 110 0) 121 112 0 121 120) (up (up (up t4 121 4 pl) 121 110 0) 121 112 0 121 121) (up (up (up t4 121 4 pl) 121 110 0) 121 112 0 194)
      rw [p55 9 (by decide), p55 10 (by decide), p55 11 (by decide), p55 12 (by decide), q5 70 (by decide) (by decide) (by decide), p121 118 (by decide) (by decide) (by decide), p121 119 (by decide) (by decide) (by decide), p121 120 (by decide) (by decide) (by decide), p121 121 (by decide) (by decide) (by decide), q6 194 (by decide)]
      exact q
    · refine ⟨0, ?_, by omega, ?_⟩
      · rw [up_cell (by decide), up_same]
        rfl
      · rw [q5 66 (by decide) (by decide) (by decide), q5 67 (by decide) (by decide) (by decide), q5 68 (by decide) (by decide) (by decide)]
        exact y3
    · rw [q6 123 (by decide)]
      exact i4
end SS
