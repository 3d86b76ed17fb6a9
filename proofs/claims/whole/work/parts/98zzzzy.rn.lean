/-! both machines: items that change the stack only -/
section RNl
variable {F : Nat → Int} {n N : Nat} {P : Nat → Nat} {s0 t0 : iS} {K : List Nat} {U : List urec} {W : List wrec} {Y : List Nat} {A : List (List itm)} {I C p w u i fu m : Nat} {tr t1 t2 t3 s s' t t' q qB sB s1 : iS} {r : itm} {x : crc} {f : frm} {g : List frm} {pv vv st pv' vv' st' : List Int} {ob : Int}
theorem aA_p (h : PRG F n N P s0 t0 K U W Y A I C p w tr t1 t2 t3) (hu : u < A.length) (hi : i < (A.getD u []).length) (hr : (A.getD u []).getD i (0, 0, 0, 0) = r) (h9 : r.1 = 9 → e0U F P s0 t0 K U W u r = false) (h11 : r.1 ≠ 11) (h12 : r.1 ≠ 12) (h17 : r.1 ≠ 17) : (aA F P s0 t0 K U W A u (i + 1)).2.2.2 = -1 := by
  have ev := PRG_ev h hu hi hr
  rw [aA_s hi, hr]
  unfold nxA
  dsimp only
  rw [if_neg (by omega), if_neg (fun e => by
    rcases ev e with q | q | q | q
    · rw [h9 q] at e; exact absurd e (by decide)
    · exact h11 q
    · exact h12 q
    · exact h17 q)]
theorem aA_w (hi : i < (A.getD u []).length) (hr : (A.getD u []).getD i (0, 0, 0, 0) = r) (h11 : r.1 ≠ 11) (h12 : r.1 ≠ 12) (h18 : r.1 ≠ 18) : (aA F P s0 t0 K U W A u (i + 1)).2.1 = (aA F P s0 t0 K U W A u i).2.1 := by
  rw [aA_s hi, hr]
  unfold nxA
  dsimp only
  rw [if_neg h11, if_neg (by omega)]
theorem aA_f (hi : i < (A.getD u []).length) (hr : (A.getD u []).getD i (0, 0, 0, 0) = r) (h11 : r.1 ≠ 11) (h17 : r.1 ≠ 17) (h : (aA F P s0 t0 K U W A u (i + 1)).2.2.1 = true) : (aA F P s0 t0 K U W A u i).2.2.1 = true := by
  rw [aA_s hi, hr] at h
  unfold nxA at h
  dsimp only at h
  rw [if_neg (by omega)] at h
  split at h
  · exact absurd h (by decide)
  · exact h
theorem aA_n (hi : i < (A.getD u []).length) (hr : (A.getD u []).getD i (0, 0, 0, 0) = r) : (aA F P s0 t0 K U W A u (i + 1)).1 = (nxA P (obF F P t0 U W u) (e0U F P s0 t0 K U W u) (aA F P s0 t0 K U W A u i) r).1 := by
  rw [aA_s hi, hr]
/-- heights of both stacks -/
theorem preF_1 : (preF U f).length ≤ 1 := by
  unfold preF
  split <;> simp
theorem G_len (hP : PRG F n N P s0 t0 K U W Y A I C p w tr t1 t2 t3) : ∀ (g : List frm), GOK F P s0 t0 K U W A s t g → (∀ f g', g = f :: g' → f.2.2.2.2.1.length ≤ 359) → (csG U g).length ≤ 384 * g.length ∧ (rsG g).length ≤ 384 * g.length
  | [], _, _ => ⟨Nat.le_refl _, Nat.le_refl _⟩
  | f :: g, ⟨h1, h2⟩, h => by
    have hl : (f :: g).length = g.length + 1 := rfl
    obtain ⟨⟨b1, b1'⟩, ⟨b2, b2'⟩, b3, b4, b5, b6, b7, b8⟩ := h1
    have p12 := hP.2.2.2.2.1.2.2.2.1 (f.1 : Int)
    have v12 := hP.2.2.2.2.1.2.2.2.2.1 (f.1 : Int)
    have st := h f g rfl
    have ih := G_len hP g h2 (fun f' g' e => by
      obtain ⟨-, -, -, -, -, -, d7, -⟩ := b8 f' g' e
      rw [e] at h2
      have rq := (rq_at hP h2.1.1.1 h2.1.1.2).2.2.2.2.2.1
      omega)
    have pr := preF_1 (U := U) (f := f)
    constructor
    · show (csG U g ++ (preF U f ++ f.2.2.1 ++ f.2.2.2.1 ++ f.2.2.2.2.1)).length ≤ _
      rw [List.length_append, List.length_append, List.length_append, List.length_append]
      omega
    · show (rsG g ++ f.2.2.2.2.1).length ≤ _
      rw [List.length_append]
      omega
theorem SIM_len (hP : PRG F n N P s0 t0 K U W Y A I C p w tr t1 t2 t3) (h : SIM F P s0 t0 K U W A t3 fu s t f g) : (csG U (f :: g)).length ≤ 15360 ∧ (rsG (f :: g)).length ≤ 15360 := by
  obtain ⟨-, h1, -, -, ⟨-, -, k3, -⟩, -, -, -, -, -, e, -⟩ := h
  have rq := (rq_at hP h1.1.1.1 h1.1.1.2).2.2.2.2.2.1
  obtain ⟨a, b⟩ := G_len hP _ h1 (fun f' g' e' => by
    have e1 := (List.cons.inj e').1
    rw [← e1, e]
    omega)
  have : (f :: g).length = g.length + 1 := rfl
  constructor <;> omega
/-- the commands of an item, one by one -/
def CX (sB q : iS) (k : Nat) : Prop := (∀ c j, c ≠ 52 → ¬ (c = 51 ∧ (j = 6 ∨ j = 7 ∨ j = 11 ∨ j = 12)) → q c j = sB c j) ∧ q 51 7 = (k : Int)
theorem step0 {rr : Int} (h : SIM F P s0 t0 K U W A t3 fu s t (u, i, pv, vv, st, ob) g) (hr : (A.getD u []).getD i (0, 0, 0, 0) = r) (hB : MKB s (aA F P s0 t0 K U W A u i).2.2.2 sB) (hl : 0 < (emU F P s0 t0 K U W u r).length) (hx : (emU F P s0 t0 K U W u r).getD 0 (0, 0, 0, 0) = x) (hd : mac_doCommand x.1 x.2.1 x.2.2.1 (s 18 (cpo F P s0 t0 K U W A u i)) (up sB 51 7 ((cpo F P s0 t0 K U W A u i + 1 : Nat) : Int)) = some (rr, s1)) : TN 1 s s1 := by
  obtain ⟨⟨⟨mm, g1⟩, -⟩, ⟨⟨⟨b1, b1'⟩, -⟩, -⟩, -, -, -, -, -, ⟨-, -, -, e14⟩, ⟨n1, n2, n3, n4, n5, n6⟩, ⟨-, e7⟩, -, -⟩ := h
  exact fetch (m := 0) (mm := mm) (rr := rr) g1 b1 b1' hr hl hx (fun _ _ _ _ => rfl) e14 e7 (by rw [if_pos rfl]; exact hB) ⟨n4, by split at n6 <;> omega⟩ ⟨by omega, by omega⟩ hd
theorem stepm {rr : Int} (h : SIM F P s0 t0 K U W A t3 fu s t (u, i, pv, vv, st, ob) g) (hr : (A.getD u []).getD i (0, 0, 0, 0) = r) (hB : MKB s (aA F P s0 t0 K U W A u i).2.2.2 sB) (h16 : sB 51 16 = t 121 96) (hf : ∀ c k, ¬ (c = 51 ∧ (k = 16 ∨ k = 18)) → sB c k = s c k) (hm : m ≠ 0) (hq : CX sB q (cpo F P s0 t0 K U W A u i + m)) (hl : m < (emU F P s0 t0 K U W u r).length) (hx : (emU F P s0 t0 K U W u r).getD m (0, 0, 0, 0) = x) (hd : mac_doCommand x.1 x.2.1 x.2.2.1 (s 18 (cpo F P s0 t0 K U W A u i + m)) (up q 51 7 ((cpo F P s0 t0 K U W A u i + (m + 1) : Nat) : Int)) = some (rr, s1)) : TN 1 q s1 := by
  obtain ⟨⟨⟨mm, g1⟩, -⟩, ⟨⟨⟨b1, b1'⟩, -⟩, -⟩, -, -, -, -, -, ⟨-, -, -, e14⟩, ⟨n1, n2, n3, n4, n5, n6⟩, ⟨-, e7⟩, -, -⟩ := h
  have n6' : 0 ≤ t 121 96 := by split at n6 <;> omega
  exact fetch (m := m) (mm := mm) (rr := rr) g1 b1 b1' hr hl hx (fun c k z1 z2 => by rw [hq.1 c k (by omega) (by omega), hf c k (by omega)]) (by rw [hq.1 51 14 (by omega) (by omega), hf 51 14 (by omega)]; exact e14) hq.2 (by rw [if_neg hm]; exact Or.inl ⟨rfl, rfl⟩) (by rw [hq.1 51 16 (by omega) (by omega), h16]; omega) (by rw [hq.1 51 15 (by omega) (by omega), hf 51 15 (by omega)]; omega) hd
theorem CX_fs {k : Nat} (h : FS (up sB 51 7 ((k : Nat) : Int)) s1) : CX sB s1 k := ⟨fun c j z1 z2 => by rw [h c j z1 (by omega), up_ne (by omega)], by rw [h 51 7 (by omega) (by omega), up_same]⟩
theorem CX_fs2 {k k' : Nat} (hq : CX sB q k') (h : FS (up q 51 7 ((k : Nat) : Int)) s1) : CX sB s1 k := ⟨fun c j z1 z2 => by rw [h c j z1 (by omega), up_ne (by omega)]; exact hq.1 c j z1 z2, by rw [h 51 7 (by omega) (by omega), up_same]⟩
/-- what the reference leaves as it was -/
def FRx (t t' : iS) : Prop := ∀ c k, c ≠ 180 → ¬ (c = 121 ∧ (k = 87 ∨ k = 98)) → t' c k = t c k
/-- an item that changes the stack only -/
theorem STP_stk (hP : PRG F n N P s0 t0 K U W Y A I C p w tr t1 t2 t3) (h : SIM F P s0 t0 K U W A t3 fu s t (u, i, pv, vv, st, ob) g) (hr : (A.getD u []).getD i (0, 0, 0, 0) = r) (hk : (r.1 = 9 → e0U F P s0 t0 K U W u r = false) ∧ r.1 ≠ 11 ∧ r.1 ≠ 12 ∧ r.1 ≠ 17 ∧ r.1 ≠ 18)
    (hw : ∀ x ∈ st', w16 x) (hlen : st'.length = (nxA P (obF F P t0 U W u) (e0U F P s0 t0 K U W u) (aA F P s0 t0 K U W A u i) r).1)
    (hC : ∀ sB, MKB s (aA F P s0 t0 K U W A u i).2.2.2 sB → sB 51 16 = t 121 96 → (∀ c k, ¬ (c = 51 ∧ (k = 16 ∨ k = 18)) → sB c k = s c k) → ∃ s', TN (emU F P s0 t0 K U W u r).length s s' ∧ STK s' (csG U g ++ (preF U (u, i, pv, vv, st, ob) ++ pv ++ vv ++ st')) ∧ CX sB s' (cpo F P s0 t0 K U W A u i + (emU F P s0 t0 K U W u r).length))
    (hR : ∃ t', m_doItem t = some (0, t') ∧ RTK t' (rsG g ++ st') ∧ FRx t t' ∧ t' 121 98 = t 121 98 + 1) : STP F P s0 t0 K U W A t3 fu s t ((u, i, pv, vv, st, ob) :: g) := by
  obtain ⟨k9, k11, k12, k17, k18⟩ := hk
  obtain ⟨sB, m1, m2, m3, m4, m5⟩ := SIM_mk hP h
  obtain ⟨s', c1, c2, c3, c4⟩ := hC sB m1 m2 m4
  obtain ⟨t', r1, r2, r3, r4⟩ := hR
  have h' := h
  obtain ⟨-, ⟨⟨⟨b1, b1'⟩, -, ⟨b3, b3', -⟩, b4, b5, -⟩, -⟩, -, -, -, -, st1, ⟨l1, l2, l3, l4⟩, ⟨n1, n2, n3, n4, n5, n6⟩, ⟨e98, e7⟩, -, -⟩ := h'
  dsimp only at b1 b1' b3 b3' b4 b5 e98 e7
  have hi1 := i_next hP b1 b1' hr k18
  have fs : ∀ c k, c ≠ 52 → ¬ (c = 51 ∧ (k = 6 ∨ k = 7 ∨ k = 11 ∨ k = 12 ∨ k = 16 ∨ k = 18)) → s' c k = s c k := fun c k z1 z2 => by
    rw [c3 c k z1 (by omega), m4 c k (by omega)]
  have e18 : s' 51 18 = sB 51 18 := c3 51 18 (by omega) (by omega)
  have e16 : s' 51 16 = t 121 96 := (c3 51 16 (by omega) (by omega)).trans m2
  have hS : SIM F P s0 t0 K U W A t3 fu s' t' (u, i + 1, pv, vv, st', ob) g := by
    refine SIM_adv hP h hi1 ⟨rfl, rfl⟩ ⟨b3, b3', hw⟩ (fun c k z => fs c k (by omega) (by omega)) (fun k z => fs 51 k (by omega) (by omega)) (fun c k z => r3 c k (by omega) (by omega)) (fun k z => r3 121 k (by omega) (by omega)) (fun k _ => r3 179 k (by omega) (by omega)) (fun k hk => by rw [r3 179 _ (by omega) (by omega)]; exact b4 k hk) (fun k hk => by rw [r3 179 _ (by omega) (by omega)]; exact b5 k hk) c2 r2 (fun k hk => by rw [fs 54 k (by omega) (by omega), r3 178 k (by omega) (by omega)]; exact st1 k hk) ⟨LB_of l1 (fun c k z => fs c k (by omega) (by omega)) (fun c k z => r3 c k (by omega) (by omega)), ⟨by rw [fs 44 5 (by omega) (by omega)]; exact l2.1, by rw [r3 121 99 (by omega) (by omega)]; exact l2.2⟩, by rw [fs 48 9 (by omega) (by omega)]; exact l3, by rw [fs 51 14 (by omega) (by omega)]; exact l4⟩ e16 ?_ ?_ (by rw [aA_n b1' hr]; exact hlen) (aA_w b1' hr k11 k12 k18) (aA_p hP b1 b1' hr k9 k11 k12 k17) (fun z => ?_)
    · rw [c4, cpo_s b1', hr]
    · rw [r4, e98]; omega
    · obtain ⟨w, ws, v1, v2⟩ := m5 (aA_f b1' hr k11 k17 z)
      exact ⟨w, ws, v1, by rw [e18]; exact v2⟩
  exact STP_mk h hr hi1 rfl c1 (run_nx l2.2 r1) (r3 121 96 (by omega) (by omega)) hS ⟨by omega, by omega⟩
end RNl
