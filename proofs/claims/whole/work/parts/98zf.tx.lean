/-! declarations: both sides -/
/-- what the reference's declarations change -/
def FDX (t t' : iS) : Prop := ∀ c k, ¬ (c = 121 ∧ (k = 10 ∨ k = 25 ∨ k = 16 ∨ k = 60)) → c ≠ 129 → c ≠ 134 → c ≠ 135 → ¬ (137 ≤ c ∧ c ≤ 143) → t' c k = t c k
section TXe
variable {F : Nat → Int} {n N : Nat} {P : Nat → Nat} {s0 t0 : iS} {T : TXP} {TV : Int → Int → Prop} {Z : iS → Prop} {b : Int} {g : Nat} {K : List Nat} {U : List urec} {W : List wrec} {Y : List Nat} {A : List (List itm)} {s s1 t t1 t2 : iS} {p o w I C : Nat} {v r y : Int}
theorem FDX_refl : FDX t t := fun _ _ _ _ _ _ _ => rfl
theorem FDX_trans (h : FDX t t1) (h2 : FDX t1 t2) : FDX t t2 := fun c k a1 a2 a3 a4 a5 => (h2 c k a1 a2 a3 a4 a5).trans (h c k a1 a2 a3 a4 a5)
theorem FDX_10 {x : Int} : FDX t (up t 121 10 x) := fun c k a1 a2 a3 a4 a5 => up_ne (by omega)
theorem FDX_SR (h : FDX t t1) (hr : SR t0 t) : SR t0 t1 := by
  unfold SR at hr ⊢
  rw [show t1 123 = t 123 from funext fun k => h 123 k (by omega) (by omega) (by omega) (by omega) (by omega), show t1 124 = t 124 from funext fun k => h 124 k (by omega) (by omega) (by omega) (by omega) (by omega), show t1 125 = t 125 from funext fun k => h 125 k (by omega) (by omega) (by omega) (by omega) (by omega), show t1 126 = t 126 from funext fun k => h 126 k (by omega) (by omega) (by omega) (by omega) (by omega), show t1 127 = t 127 from funext fun k => h 127 k (by omega) (by omega) (by omega) (by omega) (by omega), h 121 3 (by omega) (by omega) (by omega) (by omega) (by omega)]
  exact hr
theorem RXT_10 {x : Int} (h : RXT K U W t) : RXT K U W (up t 121 10 x) := by
  obtain ⟨a1, a2, a3, a4, a5, a6, a7, a8, a9, a10, a11, a12, a13⟩ := h
  exact ⟨by rw [up_ne (by omega)]; exact a1, fun i hi => by rw [up_ne (by omega)]; exact a2 i hi, a3, by rw [up_ne (by omega)]; exact a4, fun i hi => by rw [up_ne (by omega), up_ne (by omega), up_ne (by omega), up_ne (by omega)]; exact a5 i hi, a6, by rw [up_ne (by omega)]; exact a7, fun i hi => by rw [up_ne (by omega), up_ne (by omega), up_ne (by omega), up_ne (by omega), up_ne (by omega), up_ne (by omega), up_ne (by omega)]; exact a8 i hi, a9, by rw [up_ne (by omega)]; exact a10, fun q => by rw [up_ne (by omega)]; exact a11 q, fun c hc => by rw [up_ne (by omega)]; exact a12 c hc, fun u hu => by rw [up_ne (by omega), up_ne (by omega)]; exact a13 u hu⟩
theorem nw_le : nwW v K U W ≤ W.length ∧ nwC ((K.length : Int) - 1) W ≤ W.length := by
  unfold nwW nwP nwV nwS nwF nwC
  refine ⟨?_, List.countP_le_length⟩
  split
  · exact List.countP_le_length
  · split
    · exact List.countP_le_length
    · split <;> exact List.countP_le_length
/-- the class declares -/
theorem c_decl (h : TKR 0 F n N P s0 t0) (hT : RHT T TV Z b s0 N P) (hL : LXT s0 t0 N s t p o w I C) (hs : T g K U W Y A s) (hy : TV y r) (hg : g = 0 ∧ (v = 3 ∨ v = 4) ∨ g = 1 ∧ v = 1 ∨ g = 2 ∧ v = 2) (hW : W.length ≤ p) :
    (s0 9 p = 3 → nwW v K U W < 12 → ∃ s1, trl_declare v r s = some (0, up s1 2 12 ((p + 1 : Nat) : Int)) ∧ T g K U (W ++ [wNew v K U W y p]) Y A s1 ∧ MX s0 s s1) ∧
    (s0 9 p ≠ 3 → b = 0 → trl_declare v r s = some (0, stp s (if s0 9 p = 2 then 2 else 1) p N)) ∧
    (s0 9 p = 3 → 12 ≤ nwW v K U W → b = 0 → trl_declare v r s = some (0, stp s 2 p N)) := by
  have hN2 := N1001 h
  obtain ⟨h1, h2, h3, h4, h5, h6, _⟩ := hL
  have kk := tkK h h5
  have nl := (nw_le (v := v) (K := K) (U := U) (W := W)).1
  have z9 : -2147483648 ≤ s0 9 p ∧ s0 9 p ≤ 2147483647 := by
    rw [if_pos rfl] at kk
    omega
  refine ⟨fun c1 c2 => ?_, fun c1 hb => ?_, fun c1 c2 hb => ?_⟩
  · obtain ⟨e1, e2⟩ := hT.2.2.2.2.2.2.1 g K U W Y A s p v y r hs h1 h5 c1 h3 hy hg
    obtain ⟨s1, e3, e4, e5⟩ := e2 c2
    refine ⟨s1, ?_, e4, e5⟩
    have f0 : scp_isFull v s = some (0, s) := by
      unfold scp_isFull
      rw [gd_pos (by omega), e1, gr (by omega), if_pos (by omega)]
    unfold trl_declare
    rw [cK h h1 h3 h5, bq, gr z9, if_pos c1, f0, bq, gr (by omega), if_pos rfl, e3]
  · have y3 := ((hT.2.1 _ _ _ _ _ _ s hs).2.2.1 hb).1
    unfold trl_declare
    rw [cK h h1 h3 h5, bq, gr z9, if_neg c1, cSt h h1 y3 h3 h5, bq]
  · have y3 := ((hT.2.1 _ _ _ _ _ _ s hs).2.2.1 hb).1
    obtain ⟨e1, e2⟩ := hT.2.2.2.2.2.2.1 g K U W Y A s p v y r hs h1 h5 c1 h3 hy hg
    have f0 : scp_isFull v s = some (1, s) := by
      unfold scp_isFull
      rw [gd_pos (by omega), e1, gr (by omega), if_neg (by omega)]
    unfold trl_declare
    rw [cK h h1 h3 h5, bq, gr z9, if_pos c1, f0, bq, gr (by omega), if_neg (by omega), cSt h h1 y3 h3 h5, bq, if_neg (by omega)]
/-- the reference declares -/
theorem r_decl (h : TKR 0 F n N P s0 t0) (hL : LXT s0 t0 N s t p o w I C) (hX : RXT K U W t) (hK : K ≠ []) (hv : v = 2 ∧ U ≠ [] ∨ v = 3 ∨ v = 4) (hW : W.length ≤ p) {u so : Int} (hu : u = if v = 2 then (U.length : Int) - 1 else -1) (hso : so = if v = 2 then 3 else if v = 3 then 0 else 1) :
    (s0 9 p = 3 → nwW v K U W < 12 → ∃ t1, m_declares_12b u so y 1 t = m_declares_187 u so y t1 ∧ RXT K U (W ++ [wNew v K U W y p]) t1 ∧ FDX t t1 ∧ t1 121 10 = t 121 10) ∧
    (s0 9 p ≠ 3 → m_declares_12b u so y 1 t = some (.inr (.inl t))) ∧
    (s0 9 p = 3 → 12 ≤ nwW v K U W → m_declares_12b u so y 1 t = some (.inr (.inr (.inl (flt t 2 P p))))) := by
  have hN2 := N1001 h
  obtain ⟨h1, h2, h3, h4, h5, h6, _⟩ := hL
  have hX' := hX
  obtain ⟨a1, a2, a3, a4, a5, a6, a7, a8, a9, a10, a11, a12, a13⟩ := hX
  have kk := tkK h h5
  obtain ⟨nl, nl2⟩ := nw_le (v := v) (K := K) (U := U) (W := W)
  have hK1 : 0 < K.length := List.length_pos_iff.mpr hK
  have hU1 : v = 2 → 0 < U.length := fun q => List.length_pos_iff.mpr (by rcases hv with h | h | h <;> first | exact h.2 | omega)
  have e124 : t 124 (t 121 10).toNat = t0 124 p := by rw [h4, Int.toNat_natCast, h2.2.1]
  have so3 : v = 2 ∧ so = 3 ∧ u = (U.length : Int) - 1 ∨ v = 3 ∧ so = 0 ∧ u = -1 ∨ v = 4 ∧ so = 1 ∧ u = -1 := by
    rcases hv with c | c | c
    · exact Or.inl ⟨c.1, by rw [hso, if_pos c.1], by rw [hu, if_pos c.1]⟩
    · exact Or.inr (Or.inl ⟨c, by rw [hso, if_neg (by omega), if_pos c], by rw [hu, if_neg (by omega)]⟩)
    · exact Or.inr (Or.inr ⟨c, by rw [hso, if_neg (by omega), if_neg (by omega)], by rw [hu, if_neg (by omega)]⟩)
  have Hc : s0 9 p = 3 → m_declares_12b u so y 1 t = m_declares_84 u so y (p : Int) (nwW v K U W : Int) t := by
    intro c1
    unfold m_declares_12b
    rw [gr (by omega), if_neg (by omega), h6, gr (by omega), if_pos rfl, gd_pos (by omega), gr (by omega), if_pos (by omega), gr (by omega)]
    rcases so3 with ⟨c, d, e⟩ | ⟨c, d, e⟩ | ⟨c, d, e⟩
    · have := hU1 c
      rw [if_neg (by omega), if_neg (by omega), gd_pos (by omega), show u.toNat = U.length - 1 by omega, (a13 (U.length - 1) (by omega)).2, h4, show ((U.length - 1 : Nat) : Int) = (U.length : Int) - 1 by omega, show nwW v K U W = nwV ((U.length : Int) - 1) W by unfold nwW; rw [if_neg (by omega), if_pos c]]
    · rw [if_pos d, a10, h4, show nwW v K U W = nwS W by unfold nwW; rw [if_neg (by omega), if_neg (by omega), if_pos c]]
    · rw [if_neg (by omega), if_pos d, a1, gd_pos (by omega), show ((K.length : Int) - 1).toNat = K.length - 1 by omega, a12 (K.length - 1) (by omega), h4, show ((K.length - 1 : Nat) : Int) = (K.length : Int) - 1 by omega, show nwW v K U W = nwF ((K.length : Int) - 1) W by unfold nwW; rw [if_neg (by omega), if_neg (by omega), if_neg (by omega)]]
  refine ⟨fun c1 c2 => ?_, fun c1 => ?_, fun c1 c2 => ?_⟩
  · rw [Hc c1]
    have room : m_room (nwW v K U W : Int) 12 (p : Int) t = some (0, t) := by
      unfold m_room
      rw [gr (by omega), gr (by omega), if_pos (by omega)]
    have D : ∀ v5 v6, m_declare u so y (p : Int) v5 v6 t = some (0, dcl t W.length u so y (p : Int) v5 v6) := fun v5 v6 => mdcl_ok a7 (by omega)
    have dn : ∀ {v5 v6 : Int} {c k : Nat}, ¬ (c = 121 ∧ k = 25) → ¬ (137 ≤ c ∧ c ≤ 143 ∧ k = W.length) → dcl t W.length u so y (p : Int) v5 v6 c k = t c k := fun q1 q2 => dcl_ne q1 q2
    unfold m_declares_84
    rw [room, bq, h6, gr (by omega), if_pos (by omega), gr (by omega)]
    rcases so3 with ⟨c, d, e⟩ | ⟨c, d, e⟩ | ⟨c, d, e⟩
    · have hU2 := hU1 c
      have at' := dcl_at (t := t) (w := W.length) (v1 := u) (v2 := so) (v3 := y) (v4 := (p : Int)) (v5 := (nwW v K U W : Int)) (v6 := (nwW v K U W : Int))
      obtain ⟨t1', t2', t3', t4', t5', t6', t7', t8'⟩ := at'
      rw [if_neg (by omega)]
      refine ⟨up (dcl t W.length u so y (p : Int) (nwW v K U W : Int) (nwW v K U W : Int)) 135 u.toNat ((nwW v K U W : Int) + 1), ?_, RXT_add hX' (Or.inr (Or.inl ⟨c, List.length_pos_iff.mp hU2⟩)) hK (fun c' k' q1 q2 q3 q4 q5 => ?_) ?_ ?_ (fun q => by omega) (fun q => by omega) (fun q => by omega) (fun _ => ?_), fun c' k' q1 q2 q3 q4 q5 => ?_, ?_⟩
      · unfold m_declares_123 m_declares_152 m_declares_172
        rw [D, bq, gr (by omega), if_neg (by omega), gr (by omega), if_neg (by omega), gr (by omega), if_pos d, gd_pos (by omega), lt_eq]
      · rw [up_ne (by omega), dn (by omega) (by omega)]
      · rw [up_ne (by omega)]; exact t8'
      · rw [up_ne (by omega), up_ne (by omega), up_ne (by omega), up_ne (by omega), up_ne (by omega), up_ne (by omega), up_ne (by omega), t1', t2', t3', t4', t5', t6', t7', a1]
        refine ⟨rfl, ?_, ?_, rfl, rfl, ?_, rfl⟩
        · show u = if v = 1 ∨ v = 2 then (U.length : Int) - 1 else -1
          rw [if_pos (by omega)]; exact e
        · show so = if v = 1 then 2 else if v = 2 then 3 else if v = 3 then 0 else 1
          rw [if_neg (by omega), if_pos c]; exact d
        · show (nwW v K U W : Int) = if v = 3 then (nwC ((K.length : Int) - 1) W : Int) else (nwW v K U W : Int)
          rw [if_neg (by omega)]
      · rw [show u.toNat = U.length - 1 by omega, up_same, (a13 (U.length - 1) (by omega)).2, show ((U.length - 1 : Nat) : Int) = (U.length : Int) - 1 by omega, show nwW v K U W = nwV ((U.length : Int) - 1) W by unfold nwW; rw [if_neg (by omega), if_pos c]]
      · rw [up_ne (by omega), dn (by omega) (by omega)]
      · rw [up_ne (by omega), dn (by omega) (by omega)]
    · have at' := dcl_at (t := t) (w := W.length) (v1 := u) (v2 := so) (v3 := y) (v4 := (p : Int)) (v5 := t 121 60) (v6 := (nwW v K U W : Int))
      obtain ⟨t1', t2', t3', t4', t5', t6', t7', t8'⟩ := at'
      rw [if_pos d]
      have d16 : dcl t W.length u so y (p : Int) (t 121 60) (nwW v K U W : Int) 121 16 = t 121 16 := dn (by omega) (by omega)
      have d60 : dcl t W.length u so y (p : Int) (t 121 60) (nwW v K U W : Int) 121 60 = t 121 60 := dn (by omega) (by omega)
      refine ⟨up (up (dcl t W.length u so y (p : Int) (t 121 60) (nwW v K U W : Int)) 121 16 (t 121 16 + 1)) 121 60 (t 121 60 + 1), ?_, RXT_add hX' (Or.inr (Or.inr (Or.inl c))) hK (fun c' k' q1 q2 q3 q4 q5 => ?_) ?_ ?_ (fun q => ⟨?_, up_same _ _ _ _⟩) (fun q => by omega) (fun q => by omega) (fun _ => by omega), fun c' k' q1 q2 q3 q4 q5 => ?_, ?_⟩
      · unfold m_declares_123 m_declares_152 m_declares_172
        rw [D, bq, gr (by omega), if_pos d, lt_eq, lt_eq, d16, gr (by omega), if_neg (by omega), gr (by omega), if_neg (by omega), show up (dcl t W.length u so y (p : Int) (t 121 60) (nwW v K U W : Int)) 121 16 (t 121 16 + 1) 121 60 = t 121 60 by rw [up_ne (by omega)]; exact d60]
      · rw [up_ne (by omega), up_ne (by omega), dn (by omega) (by omega)]
      · rw [up_ne (by omega), up_ne (by omega)]; exact t8'
      · rw [up_ne (by omega), up_ne (by omega), up_ne (by omega), up_ne (by omega), up_ne (by omega), up_ne (by omega), up_ne (by omega), up_ne (by omega), up_ne (by omega), up_ne (by omega), up_ne (by omega), up_ne (by omega), up_ne (by omega), up_ne (by omega), t1', t2', t3', t4', t5', t6', t7', a1]
        refine ⟨rfl, ?_, ?_, rfl, rfl, ?_, rfl⟩
        · show u = if v = 1 ∨ v = 2 then (U.length : Int) - 1 else -1
          rw [if_neg (by omega)]; exact e
        · show so = if v = 1 then 2 else if v = 2 then 3 else if v = 3 then 0 else 1
          rw [if_neg (by omega), if_neg (by omega), if_pos c]; exact d
        · show t 121 60 = if v = 3 then (nwC ((K.length : Int) - 1) W : Int) else (nwW v K U W : Int)
          rw [if_pos c]; exact a11 hK
      · rw [up_ne (by omega), up_same]
      · rw [up_ne (by omega), up_ne (by omega), dn (by omega) (by omega)]
      · rw [up_ne (by omega), up_ne (by omega), dn (by omega) (by omega)]
    · have at' := dcl_at (t := t) (w := W.length) (v1 := u) (v2 := so) (v3 := y) (v4 := (p : Int)) (v5 := (nwW v K U W : Int)) (v6 := (nwW v K U W : Int))
      obtain ⟨t1', t2', t3', t4', t5', t6', t7', t8'⟩ := at'
      rw [if_neg (by omega)]
      have d14 : dcl t W.length u so y (p : Int) (nwW v K U W : Int) (nwW v K U W : Int) 121 14 = t 121 14 := dn (by omega) (by omega)
      refine ⟨up (dcl t W.length u so y (p : Int) (nwW v K U W : Int) (nwW v K U W : Int)) 129 (K.length - 1) ((nwW v K U W : Int) + 1), ?_, RXT_add hX' (Or.inr (Or.inr (Or.inr c))) hK (fun c' k' q1 q2 q3 q4 q5 => ?_) ?_ ?_ (fun q => by omega) (fun q => ?_) (fun q => by omega) (fun q => by omega), fun c' k' q1 q2 q3 q4 q5 => ?_, ?_⟩
      · unfold m_declares_123 m_declares_152 m_declares_172
        rw [D, bq, gr (by omega), if_neg (by omega), gr (by omega), if_pos d, d14, a1, gd_pos (by omega), lt_eq, show ((K.length : Int) - 1).toNat = K.length - 1 by omega, gr (by omega), if_neg (by omega)]
      · rw [up_ne (by omega), dn (by omega) (by omega)]
      · rw [up_ne (by omega)]; exact t8'
      · rw [up_ne (by omega), up_ne (by omega), up_ne (by omega), up_ne (by omega), up_ne (by omega), up_ne (by omega), up_ne (by omega), t1', t2', t3', t4', t5', t6', t7', a1]
        refine ⟨rfl, ?_, ?_, rfl, rfl, ?_, rfl⟩
        · show u = if v = 1 ∨ v = 2 then (U.length : Int) - 1 else -1
          rw [if_neg (by omega)]; exact e
        · show so = if v = 1 then 2 else if v = 2 then 3 else if v = 3 then 0 else 1
          rw [if_neg (by omega), if_neg (by omega), if_neg (by omega)]; exact d
        · show (nwW v K U W : Int) = if v = 3 then (nwC ((K.length : Int) - 1) W : Int) else (nwW v K U W : Int)
          rw [if_neg (by omega)]
      · rw [up_same, a12 (K.length - 1) (by omega), show ((K.length - 1 : Nat) : Int) = (K.length : Int) - 1 by omega, show nwW v K U W = nwF ((K.length : Int) - 1) W by unfold nwW; rw [if_neg (by omega), if_neg (by omega), if_neg (by omega)]]
      · rw [up_ne (by omega), dn (by omega) (by omega)]
      · rw [up_ne (by omega), dn (by omega) (by omega)]
  · unfold m_declares_12b
    rw [gr (by omega), if_neg (by omega), h6, gr (by omega), if_pos rfl, gd_pos (by omega), gr (by omega), if_neg (by omega)]
  · rw [Hc c1]
    have room : m_room (nwW v K U W : Int) 12 (p : Int) t = some (0, flt t 2 P p) := by
      unfold m_room
      rw [gr (by omega), gr (by omega), if_neg (by omega), rWr h2 h h6 h5, bq]
    unfold m_declares_84
    rw [room, bq, flt_11, gr (by omega), if_neg (by omega)]
end TXe
