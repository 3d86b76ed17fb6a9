/-! both machines: a step within a call -/
section RNk
variable {F : Nat → Int} {n N : Nat} {P : Nat → Nat} {s0 t0 : iS} {K : List Nat} {U : List urec} {W : List wrec} {Y : List Nat} {A : List (List itm)} {I C p w u i fu : Nat} {tr t1 t2 t3 s s' t t' q qB sB : iS} {r : itm} {f : frm} {g : List frm}
/-- the state behind a mark -/
theorem SIM_mk (hP : PRG F n N P s0 t0 K U W Y A I C p w tr t1 t2 t3) (h : SIM F P s0 t0 K U W A t3 fu s t f g) : ∃ sB, MKB s (aA F P s0 t0 K U W A f.1 f.2.1).2.2.2 sB ∧ sB 51 16 = t 121 96 ∧ s 51 16 ≤ sB 51 16 ∧ (∀ c k, ¬ (c = 51 ∧ (k = 16 ∨ k = 18)) → sB c k = s c k) ∧ ((aA F P s0 t0 K U W A f.1 f.2.1).2.2.1 = true → ∃ w ws, (aA F P s0 t0 K U W A f.1 f.2.1).2.1 = w :: ws ∧ sB 51 18 = (P w : Int)) := by
  obtain ⟨-, ⟨⟨⟨h1, h2⟩, -⟩, -⟩, -, -, -, -, -, -, ⟨k1, k2, k3, k4, k5, k6⟩, -, -, k7⟩ := h
  obtain ⟨w1, w2⟩ := aA_ws hP h1 f.2.1 (by omega)
  by_cases c : (aA F P s0 t0 K U W A f.1 f.2.1).2.2.2 = -1
  · rw [if_pos c] at k6
    refine ⟨s, Or.inl ⟨c, rfl⟩, by omega, Int.le_refl _, fun _ _ _ => rfl, fun z => k7 z c⟩
  · rw [if_neg c] at k6
    obtain ⟨v1, w, ws, v2, v3⟩ := w2.resolve_left c
    have pw := PRG_P hP (w1 w (by rw [v2]; exact List.mem_cons_self))
    refine ⟨up (up s 51 18 (P w : Int)) 51 16 (s 51 16 + 1), Or.inr ⟨by rw [v3]; omega, by rw [v3]; omega, by omega, by rw [v3]⟩, by rw [up_same]; omega, by rw [up_same]; omega, fun c k z => by rw [up_ne (by omega), up_ne (by omega)], fun _ => ⟨w, ws, v2, by rw [up_ne (by omega), up_same]⟩⟩
/-- a command of an item -/
theorem fetch {m : Nat} {x : crc} {mm rr : Int} (hG : CPG F P s0 t0 K U W A mm s) (hu : u < A.length) (hi : i < (A.getD u []).length) (hr : (A.getD u []).getD i (0, 0, 0, 0) = r) (hm : m < (emU F P s0 t0 K U W u r).length) (hx : (emU F P s0 t0 K U W u r).getD m (0, 0, 0, 0) = x) (ce : ∀ c k, 14 ≤ c → c ≤ 19 → q c k = s c k) (h14 : q 51 14 = -1) (h7 : q 51 7 = ((cpo F P s0 t0 K U W A u i + m : Nat) : Int)) (hB : MKB q (if m = 0 then (aA F P s0 t0 K U W A u i).2.2.2 else -1) qB) (h16 : 0 ≤ q 51 16 ∧ q 51 16 ≤ 5000) (h15 : 0 ≤ q 51 15 ∧ q 51 15 ≤ 5000) (hd : mac_doCommand x.1 x.2.1 x.2.2.1 (s 18 (cpo F P s0 t0 K U W A u i + m)) (up qB 51 7 (((cpo F P s0 t0 K U W A u i + m : Nat) : Int) + 1)) = some (rr, s')) : TN 1 q s' := by
  subst hr
  obtain ⟨g1, g2, g3, g4⟩ := hG
  obtain ⟨c1, c2⟩ := cM_it (F := F) (P := P) (s0 := s0) (t0 := t0) (K := K) (U := U) (W := W) hu hi hm hx
  obtain ⟨e1, e2, e3, e4, e5, e6, e7⟩ := g3 _ c1
  rw [c2] at e1 e2 e3 e4
  refine turn (q := cpo F P s0 t0 K U W A u i + m) h14 h7 ((ce 14 8 (by omega) (by omega)).trans g1) g2 c1 (mk := if m = 0 then (aA F P s0 t0 K U W A u i).2.2.2 else -1) ?_ hB h16 h15 (r := rr) ?_
  · rw [ce 19 _ (by omega) (by omega), e4, aA_pm]
  · rw [ce 15 _ (by omega) (by omega), ce 16 _ (by omega) (by omega), ce 17 _ (by omega) (by omega), ce 18 _ (by omega) (by omega), e1, e2, e3]
    exact hd
/-- the fourth of a command -/
theorem fetch4 {m : Nat} {x : crc} {mm : Int} (hG : CPG F P s0 t0 K U W A mm s) (hu : u < A.length) (hi : i < (A.getD u []).length) (hr : (A.getD u []).getD i (0, 0, 0, 0) = r) (hm : m < (emU F P s0 t0 K U W u r).length) (hx : (emU F P s0 t0 K U W u r).getD m (0, 0, 0, 0) = x) (h12 : x.1 ≠ 12) (h13 : x.1 ≠ 13) (h9 : x.2.2.2 ≠ -9) (h15 : ¬ (x.1 = 15 ∧ 800 ≤ x.2.1)) : s 18 (cpo F P s0 t0 K U W A u i + m) = x.2.2.2 := by
  subst hr
  obtain ⟨g1, g2, g3, g4⟩ := hG
  obtain ⟨c1, c2⟩ := cM_it (F := F) (P := P) (s0 := s0) (t0 := t0) (K := K) (U := U) (W := W) hu hi hm hx
  obtain ⟨e1, e2, e3, e4, e5, e6, e7⟩ := g3 _ c1
  rw [c2, if_neg (by omega)] at e6
  exact e6 h9 h15
/-- the calls below keep their cells -/
theorem GOK_of (hW : WOK s0 N K U W) : ∀ (g : List frm), GOK F P s0 t0 K U W A s t g → (∀ k, k < 5 * g.length → s' 53 k = s 53 k) → (∀ k, k < 24 * g.length → t' 179 k = t 179 k) → (∀ k, k < g.length → t' 181 k = t 181 k ∧ t' 183 k = t 183 k ∧ t' 184 k = t 184 k) → GOK F P s0 t0 K U W A s' t' g
  | [], _, _, _, _ => trivial
  | f :: g, ⟨h1, h2⟩, a1, a2, a3 => by
    have hl : (f :: g).length = g.length + 1 := rfl
    refine ⟨?_, GOK_of hW g h2 (fun k hk => a1 k (by omega)) (fun k hk => a2 k (by omega)) (fun k hk => a3 k (by omega))⟩
    obtain ⟨b1, ⟨b2, b2'⟩, b3, b4, b5, b6, b7, b8⟩ := h1
    have p12 := hW.2.2.2.1 (f.1 : Int)
    have v12 := hW.2.2.2.2.1 (f.1 : Int)
    obtain ⟨c1, c2, c3⟩ := a3 g.length (by omega)
    refine ⟨b1, ⟨b2, b2'⟩, b3, fun k hk => by rw [a2 _ (by omega)]; exact b4 k hk, fun k hk => by rw [a2 _ (by omega)]; exact b5 k hk, by rw [c2]; exact b6, by rw [c3]; exact b7, fun f' g' e => ?_⟩
    obtain ⟨d1, d2, d3, d4, d5, d6, d7⟩ := b8 f' g' e
    rw [c1, a1 _ (by omega), a1 _ (by omega), a1 _ (by omega), a1 _ (by omega), a1 _ (by omega)]
    exact ⟨d1, d2, d3, d4, d5, d6, d7⟩
/-- both machines behind an item of the same call -/
theorem SIM_adv {pv vv st pv' vv' st' : List Int} {ob : Int} (hP : PRG F n N P s0 t0 K U W Y A I C p w tr t1 t2 t3) (h : SIM F P s0 t0 K U W A t3 fu s t (u, i, pv, vv, st, ob) g) (hi1 : i + 1 < (A.getD u []).length)
    (hwl : pv'.length = pv.length ∧ vv'.length = vv.length) (hw : (∀ x ∈ pv', w16 x) ∧ (∀ x ∈ vv', w16 x) ∧ (∀ x ∈ st', w16 x))
    (hf : ∀ c k, 14 ≤ c ∧ c ≤ 19 ∨ c = 53 → s' c k = s c k) (h51 : ∀ k, k = 8 ∨ k = 9 ∨ k = 10 ∨ k = 13 ∨ k = 15 ∨ k = 17 → s' 51 k = s 51 k)
    (ht : ∀ c k, 128 ≤ c ∧ c ≤ 156 ∨ 164 ≤ c ∧ c ≤ 171 ∨ c = 181 ∨ 183 ≤ c ∧ c ≤ 185 → t' c k = t c k) (h121 : ∀ k, k = 88 ∨ k = 89 ∨ k = 95 ∨ k = 96 ∨ k = 97 → t' 121 k = t 121 k)
    (h179 : ∀ k, k < 24 * g.length → t' 179 k = t 179 k) (hpv : ∀ k, k < pv'.length → t' 179 (24 * g.length + k) = pv'.getD k 0) (hvv : ∀ k, k < vv'.length → t' 179 (24 * g.length + 12 + k) = vv'.getD k 0)
    (hST : STK s' (csG U g ++ (preF U (u, i, pv, vv, st, ob) ++ pv' ++ vv' ++ st'))) (hRT : RTK t' (rsG g ++ st')) (hst : ∀ k, k < 12 → s' 54 k = t' 178 k ∧ w16 (s' 54 k)) (hLB : LB s' t' ∧ gO s' t' ∧ s' 48 9 = 0 ∧ s' 51 14 = -1)
    (h16 : s' 51 16 = t 121 96) (hpc : s' 51 7 = ((cpo F P s0 t0 K U W A u (i + 1) : Nat) : Int)) (h98 : t' 121 98 = ((stA A u + (i + 1) : Nat) : Int)) (hlen : st'.length = (aA F P s0 t0 K U W A u (i + 1)).1) (hws : (aA F P s0 t0 K U W A u (i + 1)).2.1 = (aA F P s0 t0 K U W A u i).2.1) (hpm : (aA F P s0 t0 K U W A u (i + 1)).2.2.2 = -1)
    (hfr : (aA F P s0 t0 K U W A u (i + 1)).2.2.1 = true → ∃ w ws, (aA F P s0 t0 K U W A u i).2.1 = w :: ws ∧ s' 51 18 = (P w : Int)) : SIM F P s0 t0 K U W A t3 fu s' t' (u, i + 1, pv', vv', st', ob) g := by
  obtain ⟨⟨⟨mm, g1⟩, g2, g3⟩, ⟨⟨⟨b1, b1'⟩, ⟨b2, b2'⟩, ⟨b3, b3', b3'', b3o⟩, b4, b5, b6, b7, b8⟩, g5⟩, ⟨g6, g7⟩, ⟨g8, g9⟩, ⟨k1, k2, k3, k4, k5, k6⟩, ⟨m1, m2, m3⟩, -, -, ⟨n1, n2, n3, n4, n5, n6⟩, -, -, -⟩ := h
  have fc : ∀ c k, 14 ≤ c → c ≤ 19 → s' c k = s c k := fun c k z1 z2 => hf c k (Or.inl ⟨z1, z2⟩)
  refine ⟨⟨⟨mm, ?_⟩, fun c k z => by rw [ht c k (by omega)]; exact g2 c k z, ?_⟩, ⟨⟨⟨b1, hi1⟩, ⟨hwl.1.trans b2, hwl.2.trans b2'⟩, ⟨hw.1, hw.2.1, hw.2.2, b3o⟩, hpv, hvv, by rw [ht 183 _ (by omega)]; exact b6, by rw [ht 184 _ (by omega)]; exact b7, fun f' g' e => ?_⟩, GOK_of hP.2.2.2.2.1 g g5 (fun k _ => hf 53 k (Or.inr rfl)) h179 (fun k _ => ⟨ht 181 k (by omega), ht 183 k (by omega), ht 184 k (by omega)⟩)⟩, ⟨hST, hRT⟩, ⟨?_, ?_⟩, ⟨by rw [h51 13 (by omega)]; exact k1, by rw [h121 88 (by omega)]; exact k2, k3, by rw [h51 17 (by omega), h121 89 (by omega)]; exact k4, by rw [h51 17 (by omega)]; exact k5, by rw [h51 17 (by omega)]; exact k6⟩, ⟨by rw [h51 8 (by omega)]; exact m1, ?_, fun z => by rw [h51 10 (by omega)]; exact m3 z⟩, hst, hLB, ⟨by rw [h51 15 (by omega)]; exact n1, by rw [h121 97 (by omega)]; exact n2, n3, ?_, by rw [h121 96 (by omega)]; exact n5, ?_⟩, ⟨h98, hpc⟩, hlen, fun z _ => ?_⟩
  · obtain ⟨c1, c2, c3, c4⟩ := g1
    refine ⟨by rw [fc 14 8 (by omega) (by omega)]; exact c1, c2, fun j hj => ?_, by rw [fc 14 10 (by omega) (by omega)]; exact c4⟩
    rw [fc 15 j (by omega) (by omega), fc 16 j (by omega) (by omega), fc 17 j (by omega) (by omega), fc 18 j (by omega) (by omega), fc 19 j (by omega) (by omega)]
    exact c3 j hj
  · obtain ⟨c1, c2, c3⟩ := g3
    refine ⟨fun j hj => ?_, by rw [ht 164 _ (by omega)]; exact c2, fun j hj => ?_⟩
    · rw [ht 165 _ (by omega), ht 164 _ (by omega)]; exact c1 j hj
    · rw [ht 166 _ (by omega), ht 167 _ (by omega), ht 168 _ (by omega)]; exact c3 j hj
  · obtain ⟨d1, d2, d3, d4, d5, d6, d7⟩ := b8 f' g' e
    rw [ht 181 _ (by omega), hf 53 _ (Or.inr rfl), hf 53 _ (Or.inr rfl), hf 53 _ (Or.inr rfl), hf 53 _ (Or.inr rfl), hf 53 _ (Or.inr rfl)]
    exact ⟨d1, d2, d3, d4, d5, d6, d7⟩
  · have e : wsG F P s0 t0 K U W A ((u, i + 1, pv', vv', st', ob) :: g) = wsG F P s0 t0 K U W A ((u, i, pv, vv, st, ob) :: g) := by
      show wsG F P s0 t0 K U W A g ++ (aA F P s0 t0 K U W A u (i + 1)).2.1.reverse = _
      rw [hws]; rfl
    rw [h121 95 (by omega), e]
    exact g8
  · have e : wsG F P s0 t0 K U W A ((u, i + 1, pv', vv', st', ob) :: g) = wsG F P s0 t0 K U W A ((u, i, pv, vv, st, ob) :: g) := by
      show wsG F P s0 t0 K U W A g ++ (aA F P s0 t0 K U W A u (i + 1)).2.1.reverse = _
      rw [hws]; rfl
    rw [e]
    intro k hk
    rw [ht 185 k (by omega)]
    exact g9 k hk
  · rw [h51 9 (by omega), m2]
    show (((csG U g).length + (preF U (u, i, pv, vv, st, ob)).length + pv.length : Nat) : Int) = (((csG U g).length + (preF U (u, i + 1, pv', vv', st', ob)).length + pv'.length : Nat) : Int)
    rw [hwl.1]
    rfl
  · rw [h16]; split at n6 <;> omega
  · show s' 51 16 + (if (aA F P s0 t0 K U W A u (i + 1)).2.2.2 = -1 then 0 else 1) = t' 121 96
    rw [if_pos hpm, h121 96 (by omega), h16]; omega
  · obtain ⟨w, ws, v1, v2⟩ := hfr z
    exact ⟨w, ws, by show (aA F P s0 t0 K U W A u (i + 1)).2.1 = _; rw [hws]; exact v1, v2⟩
/-- a step from an item to the next -/
theorem STP_mk {pv vv st pv' vv' st' : List Int} {ob : Int} {m : Nat} (h : SIM F P s0 t0 K U W A t3 fu s t (u, i, pv, vv, st, ob) g) (hr : (A.getD u []).getD i (0, 0, 0, 0) = r) (hi1 : i + 1 < (A.getD u []).length) (hm : m = (emU F P s0 t0 K U W u r).length) (hT : TN m s s') (hR : m_run_141 t = m_run_141 t') (h96 : t' 121 96 = t 121 96) (hS : SIM F P s0 t0 K U W A t3 fu s' t' (u, i + 1, pv', vv', st', ob) g) (h16 : s 51 16 ≤ s' 51 16 ∧ s' 51 16 ≤ (fu : Int)) : STP F P s0 t0 K U W A t3 fu s t ((u, i, pv, vv, st, ob) :: g) := by
  have n5 : t 121 96 ≤ (fu : Int) := h.2.2.2.2.2.2.2.2.1.2.2.2.2.1
  refine ⟨m, s', t', hT, hR, ⟨by omega, by omega⟩, Or.inl ⟨_, _, hS, ?_, ?_⟩⟩
  · have e1 := cpo_s (F := F) (P := P) (s0 := s0) (t0 := t0) (K := K) (U := U) (W := W) (show i < (A.getD u []).length by omega)
    have e2 := cpo_le (F := F) (P := P) (s0 := s0) (t0 := t0) (K := K) (U := U) (W := W) (i := i + 1) (show i + 1 ≤ (A.getD u []).length by omega)
    rw [hr, ← hm] at e1
    show (m : Int) + (((cmN F P s0 t0 K U W A (u + 1)).length - cpo F P s0 t0 K U W A u (i + 1) + rmC F P s0 t0 K U W A g : Nat) : Int) ≤ (((cmN F P s0 t0 K U W A (u + 1)).length - cpo F P s0 t0 K U W A u i + rmC F P s0 t0 K U W A g : Nat) : Int) + 3000 * (t' 121 96 - t 121 96)
    omega
  · show ((fu : Int) - t' 121 96) * 6000 + (((A.getD u []).length - (i + 1) + rmI A g : Nat) : Int) < ((fu : Int) - t 121 96) * 6000 + (((A.getD u []).length - i + rmI A g : Nat) : Int)
    rw [h96]
    omega
end RNk
