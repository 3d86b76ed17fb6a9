/-! the reference's checks: names of subs and variables -/
section RK6
variable {F : Nat → Int} {n N : Nat} {P : Nat → Nat} {s0 t0 t t' t'' : iS} {a b i j u : Nat} {K : List Nat} {U : List urec} {W : List wrec} {Y : List Nat} {ow y : Int} {L : List Nat}
def uFl (F : Nat → Int) (P : Nat → Nat) (t0 : iS) (U : List urec) (i x k : Nat) : Int := fst1 (fun y => (uAt U y).1 = (uAt U i).1 ∧ nmT F P t0 (uAt U y).2.2.1 = nmT F P t0 (uAt U i).2.2.1) x k
def uFc (U : List urec) (i x k : Nat) : Int := fst1 (fun y => (uAt U y).1 = (uAt U i).1) x k
theorem cn112 (h : RG F n N P s0 t0 K U W Y t) (hi : i < U.length) : ∀ x k : Nat, x + k = i → m_checkNames_112 (i : Int) (if uFl F P t0 U i x k = -1 then 0 else 1) (uFc U i x (k + 1)) ((x : Int) - 1) t = m_checkNames_175 (i : Int) (if uFl F P t0 U i 0 i = -1 then 0 else 1) (uFc U i 0 (i + 1)) t
  | 0, k, hx => by
    have e : k = i := by omega
    subst e
    have st : ∀ a b : Int, m_checkNames_112b (k : Int) a b (((0 : Nat) : Int) - 1) t = some (.inr (a, b, t)) := fun a b => by
      unfold m_checkNames_112b
      rw [gr (by omega), if_pos (by omega)]
    unfold m_checkNames_112
    rw [lp_end (f := fun l : Int × Int × Int × iS => m_checkNames_112b (k : Int) (l.1) (l.2.1) (l.2.2.1) (l.2.2.2)) (st _ _)]
    rfl
  | x + 1, k, hx => by
    obtain ⟨u1, u2, u3, u4, u5, u6, u7, u8, u9, u10, _⟩ := RG_U h (i := x) (by omega)
    obtain ⟨w1, w2, w3, w4, w5, w6, w7, w8, w9, w10, _⟩ := RG_U h hi
    have e1 : uFl F P t0 U i x (k + 1) = if (uAt U x).1 = (uAt U i).1 ∧ nmT F P t0 (uAt U x).2.2.1 = nmT F P t0 (uAt U i).2.2.1 then (x : Int) else uFl F P t0 U i (x + 1) k := fst1_if
    have e2 : uFc U i x (k + 1 + 1) = if (uAt U x).1 = (uAt U i).1 then (x : Int) else uFc U i (x + 1) (k + 1) := fst1_if
    have rr := fst1_rg (P := fun y => (uAt U y).1 = (uAt U i).1) (k + 1) (x + 1)
    change uFc U i (x + 1) (k + 1) = -1 ∨ _ ≤ uFc U i (x + 1) (k + 1) ∧ uFc U i (x + 1) (k + 1) < _ ∧ _ at rr
    rw [← cn112 h hi x (k + 1) (by omega)]
    have st : m_checkNames_112b (i : Int) (if uFl F P t0 U i (x + 1) k = -1 then 0 else 1) (uFc U i (x + 1) (k + 1)) (((x + 1 : Nat) : Int) - 1) t = some (.inl (if uFl F P t0 U i x (k + 1) = -1 then 0 else 1, uFc U i x (k + 1 + 1), (x : Int) - 1, t)) := by
      rw [e1, e2, show ((x + 1 : Nat) : Int) - 1 = (x : Int) by omega]
      unfold m_checkNames_112b
      rw [gr (by omega), if_neg (by omega), gd_pos (by omega), gd_pos (by omega), Int.toNat_natCast, Int.toNat_natCast, u1, w1, gr (by omega), gr (by omega), u3, w3]
      change (if (uAt U x).1 = (uAt U i).1 then _ else _) = _
      by_cases c : (uAt U x).1 = (uAt U i).1
      · rw [if_pos c, if_pos c]
        by_cases d : uFl F P t0 U i (x + 1) k = -1
        · rw [if_pos d, gr (by omega), if_pos rfl, like_ok h.1 ⟨u5, u6⟩ ⟨w5, w6⟩, bq]
          change gd _ (if (if nmT F P t0 (uAt U x).2.2.1 = nmT F P t0 (uAt U i).2.2.1 then (1 : Int) else 0) = 0 then _ else _) = _
          by_cases d2 : nmT F P t0 (uAt U x).2.2.1 = nmT F P t0 (uAt U i).2.2.1
          · rw [if_pos d2, gr (by omega), if_neg (by omega), if_pos (show (uAt U x).1 = (uAt U i).1 ∧ nmT F P t0 (uAt U x).2.2.1 = nmT F P t0 (uAt U i).2.2.1 from ⟨c, d2⟩), if_neg (by omega)]
            unfold m_checkNames_160
            rw [show (x : Int) + -1 = (x : Int) - 1 by omega]
          · rw [if_neg d2, gr (by omega), if_pos rfl, if_neg (show ¬ ((uAt U x).1 = (uAt U i).1 ∧ nmT F P t0 (uAt U x).2.2.1 = nmT F P t0 (uAt U i).2.2.1) from fun e => d2 e.2), if_pos d, show (x : Int) + -1 = (x : Int) - 1 by omega]
        · rw [if_neg d, gr (by omega), if_neg (by omega)]
          unfold m_checkNames_160
          rw [show (x : Int) + -1 = (x : Int) - 1 by omega, if_neg]
          split
          · omega
          · exact d
      · rw [if_neg c, if_neg c, if_neg (show ¬ ((uAt U x).1 = (uAt U i).1 ∧ nmT F P t0 (uAt U x).2.2.1 = nmT F P t0 (uAt U i).2.2.1) from fun e => c e.1), show (x : Int) + -1 = (x : Int) - 1 by omega]
    unfold m_checkNames_112
    rw [lp_next (f := fun l : Int × Int × Int × iS => m_checkNames_112b (i : Int) (l.1) (l.2.1) (l.2.2.1) (l.2.2.2)) st]
theorem gU_eq (h : RG F n N P s0 t0 K U W Y t) (hi : i < U.length) : gU F P t0 K U U i = if uFl F P t0 U i 0 i = -1 then [] else [16 * (uAt U i).2.2.1 + 3] := by
  obtain ⟨w1, w2, w3, w4, w5, w6, w7, w8, w9, w10, _⟩ := RG_U h hi
  unfold gU
  have e := sb_eq (j := (U.getD i (0, 0, 0, 0)).2.2.1) h (ow := 8 + (U.getD i (0, 0, 0, 0)).1) (by omega)
  have sf := fst1_self (Q := fun y => (uAt U y).1 = (uAt U i).1 ∧ nmT F P t0 (uAt U y).2.2.1 = nmT F P t0 (uAt U i).2.2.1) (a := 0) (i := i) (k := U.length - i - 1) (by rw [Nat.zero_add]; exact ⟨rfl, rfl⟩)
  rw [show i + (U.length - i - 1 + 1) = U.length by omega, Nat.zero_add] at sf
  have er : sbR F P t0 U (8 + (U.getD i (0, 0, 0, 0)).1) (U.getD i (0, 0, 0, 0)).2.2.1 = fst1 (fun y => (uAt U y).1 = (uAt U i).1 ∧ nmT F P t0 (uAt U y).2.2.1 = nmT F P t0 (uAt U i).2.2.1) 0 U.length := by
    unfold sbR
    rw [if_pos (by omega)]
    refine fst1_cg _ _ (fun x _ _ => ?_)
    show _ ↔ (uAt U x).1 = (U.getD i (0, 0, 0, 0)).1 ∧ _
    rw [show (8 : Int) + (U.getD i (0, 0, 0, 0)).1 - 8 = (U.getD i (0, 0, 0, 0)).1 by omega]
    rfl
  rw [er, if_pos (show (8 : Int) ≤ 8 + (U.getD i (0, 0, 0, 0)).1 by omega)] at e
  change _ ↔ uFl F P t0 U i 0 i = -1 at sf
  have k : fsbT F P t0 K U (8 + (U.getD i (0, 0, 0, 0)).1) (U.getD i (0, 0, 0, 0)).2.2.1 = 40 + (i : Int) ↔ uFl F P t0 U i 0 i = -1 := by
    rw [← sf, e]
    split <;> omega
  by_cases c : uFl F P t0 U i 0 i = -1
  · rw [if_pos c, if_pos (k.mpr c)]
  · rw [if_neg c, if_neg (fun z => c (k.mp z))]
    rfl
theorem uFc_eq (h : RG F n N P s0 t0 K U W Y t) (hi : i < U.length) : uFc U i 0 (i + 1) = (U.countP (fun u => decide (u.1 < (uAt U i).1)) : Int) := by
  have p1 := cp_pre (d := ((0, 0, 0, 0) : urec)) (p := fun u => decide (u.1 < (uAt U i).1)) U (fun i' k q1 q2 q3 => decide_eq_true (by
    have := h.2.2.2.2.2.1 i' k q1 q2
    have := of_decide_eq_true q3
    omega))
  have r1 : ∀ x, x < U.length → ((uAt U x).1 < (uAt U i).1 ↔ x < U.countP (fun u => decide (u.1 < (uAt U i).1))) := fun x hx => ⟨fun z => (p1 x hx).mp (decide_eq_true z), fun z => of_decide_eq_true ((p1 x hx).mpr z)⟩
  have a1 := r1 i hi
  have a2 := r1 (U.countP (fun u => decide (u.1 < (uAt U i).1))) (by omega)
  have a3 : (uAt U (U.countP (fun u => decide (u.1 < (uAt U i).1)))).1 ≤ (uAt U i).1 := h.2.2.2.2.2.1 _ i (by omega) hi
  unfold uFc
  have := fst1_split (Q := fun y => (uAt U y).1 = (uAt U i).1) (U.countP (fun u => decide (u.1 < (uAt U i).1))) 0 (i - U.countP (fun u => decide (u.1 < (uAt U i).1)) + 1)
  rw [show U.countP (fun u => decide (u.1 < (uAt U i).1)) + (i - U.countP (fun u => decide (u.1 < (uAt U i).1)) + 1) = i + 1 by omega] at this
  rw [this, if_pos ((fst1_no _ _).mpr fun x _ hx hq => by have := r1 x (by omega); omega), Nat.zero_add, fst1_y (by omega)]
/-- the checks may change these -/
def FU (t t' : iS) : Prop := ∀ c k, ¬ (c = 121 ∧ (k = 69 ∨ k = 70)) → c ≠ 169 → t' c k = t c k
theorem FU_FR (h : FU t t') : FR t t' := fun c k q q2 _ _ => h c k (by omega) q2
theorem cn_U (h : RG F n N P s0 t0 K U W Y t) (hb : RBc P N L t) : ∃ t', lp (L := Int × iS) (E := iS) (fun l => m_checkNames_95b (l.1) (l.2)) (0, t) = some t' ∧ RBc P N (L ++ (List.range U.length).flatMap (fun i => gU F P t0 K U U i ++ gT F P s0 t0 K (uAt U i).2.2.2)) t' ∧ FU t t' ∧ RG F n N P s0 t0 K U W Y t' ∧ ∀ i, i < U.length → t' 169 i = (i : Int) - (U.countP (fun u => decide (u.1 < (uAt U i).1)) : Int) := by
  have hU := h.2.1.2.2.2.2.2.1
  have B := lpN (f := m_checkNames_95b) (M := U.length) (I := fun i t' => RBc P N (L ++ (List.range i).flatMap (fun i => gU F P t0 K U U i ++ gT F P s0 t0 K (uAt U i).2.2.2)) t' ∧ FU t t' ∧ ∀ x, x < i → t' 169 x = (x : Int) - (U.countP (fun u => decide (u.1 < (uAt U x).1)) : Int)) (fun i t1 hi ⟨q1, q2, q3⟩ => by
    have g := RG_fr h (FU_FR q2)
    obtain ⟨u1, u2, u3, u4, u5, u6, u7, u8, u9, u10, _⟩ := RG_U g hi
    have cc : U.countP (fun u => decide (u.1 < (uAt U i).1)) ≤ U.length := List.countP_le_length
    unfold m_checkNames_95b
    rw [gr (by omega), g.2.1.2.2.2.1, gr (by omega), if_neg (by omega)]
    have E := cn112 g hi i 0 (by omega)
    have z1 : uFl F P t0 U i i 0 = -1 := rfl
    have z2 : uFc U i i (0 + 1) = (i : Int) := fst1_y (Q := fun y => (uAt U y).1 = (uAt U i).1) rfl
    rw [if_pos z1, z2] at E
    rw [E, uFc_eq g hi]
    unfold m_checkNames_175
    rw [gd_pos (by omega), lt_eq, Int.toNat_natCast]
    have f2 : FU t (up t1 169 i ((i : Int) - (U.countP (fun u => decide (u.1 < (uAt U i).1)) : Int))) := fun c k a1 a2 => by
      rw [up_ne (by omega)]
      exact q2 c k a1 a2
    have g2 := RG_fr h (FU_FR f2)
    have b2 : RBc P N (L ++ (List.range i).flatMap (fun i => gU F P t0 K U U i ++ gT F P s0 t0 K (uAt U i).2.2.2)) (up t1 169 i ((i : Int) - (U.countP (fun u => decide (u.1 < (uAt U i).1)) : Int))) := RBc_fr q1 (fun k _ => up_ne (by omega))
    have h169 : ∀ x, x < i + 1 → up t1 169 i ((i : Int) - (U.countP (fun u => decide (u.1 < (uAt U i).1)) : Int)) 169 x = (x : Int) - (U.countP (fun u => decide (u.1 < (uAt U x).1)) : Int) := fun x hx => by
      by_cases c : x = i
      · rw [c, up_same]
      · rw [up_ne (by omega)]
        exact q3 x (by omega)
    generalize up t1 169 i ((i : Int) - (U.countP (fun u => decide (u.1 < (uAt U i).1)) : Int)) = t2 at f2 g2 b2 h169 ⊢
    have fin : ∀ (L' : List Nat) (t3 : iS), RBc P N L' t3 → FN t2 t3 → ∃ t4, m_checkNames_199 (i : Int) t3 = some (.inl ((i : Int) + 1, t4)) ∧ RBc P N (L' ++ gT F P s0 t0 K (uAt U i).2.2.2) t4 ∧ FU t t4 ∧ ∀ x, x < i + 1 → t4 169 x = (x : Int) - (U.countP (fun u => decide (u.1 < (uAt U x).1)) : Int) := fun L' t3 c1 c2 => by
      have g3 := RG_fr g2 (FN_FR c2)
      obtain ⟨t4, e1, e2, e3, e4⟩ := chkT_ok (y := (uAt U i).2.2.2) g3 c1 (by
        rcases (g3.2.2.1.2.2.1 _ (gd_mem (d := ((0, 0, 0, 0) : urec)) hi)).1 with z | ⟨j, z, z2, _⟩
        · exact Or.inl z
        · exact Or.inr ⟨j, z, z2⟩)
      refine ⟨t4, ?_, e2, fun c k a1 a2 => (e3 c k a1).trans ((c2 c k a1).trans (f2 c k a1 a2)), fun x hx => by rw [e3 169 x (by omega), c2 169 x (by omega)]; exact h169 x hx⟩
      unfold m_checkNames_199
      rw [gd_pos (by omega), Int.toNat_natCast, (RG_U g3 hi).2.2.2.1, show m_checkType (U.getD i (0, 0, 0, 0)).2.2.2 t3 = _ from e1, bq]
    rw [rg_s, gU_eq g hi, ← List.append_assoc]
    by_cases c : uFl F P t0 U i 0 i = -1
    · rw [if_pos c, if_pos c, gr (by omega), if_pos rfl, List.nil_append]
      exact fin _ t2 b2 FN_refl
    · rw [if_neg c, if_neg c, gr (by omega), if_neg (by omega)]
      obtain ⟨t3, e1, e2, e3⟩ := note_ok (f := 3) (j := (uAt U i).2.2.1) g2.1 b2 (by omega) u5
      rw [(RG_U g2 hi).2.2.1, show m_note 3 ((U.getD i (0, 0, 0, 0)).2.2.1 : Int) t2 = _ from e1, bq, ← List.append_assoc]
      exact fin _ t3 e2 e3) (fun t1 ⟨q1, q2, q3⟩ => by
    have g := RG_fr h (FU_FR q2)
    unfold m_checkNames_95b
    rw [gr (by omega), g.2.1.2.2.2.1, gr (by omega), if_pos (by omega)]) U.length 0 t (by omega) ⟨by rw [List.range_zero, List.flatMap_nil, List.append_nil]; exact hb, fun _ _ _ _ => rfl, fun x hx => by omega⟩
  obtain ⟨t', b1, b2, b3, b4⟩ := B
  exact ⟨t', b1, b2, b3, RG_fr h (FU_FR b3), b4⟩
end RK6
