/-! entering a sub: both machines -/
section ROm
variable {F : Nat → Int} {n N : Nat} {P : Nat → Nat} {s0 t0 : iS} {K : List Nat} {U : List urec} {W : List wrec} {Y : List Nat} {A : List (List itm)} {I C p w u fu sb : Nat} {tr t1 t2 t3 s t q s' t' : iS} {L B M : List Int} {o oF : Int} {G : List frm}
def obL (U : List urec) (sb : Nat) (o : Int) : List Int := if soF U sb = 3 then [o] else []
theorem aA_0 : aA F P s0 t0 K U W A u 0 = (0, [], false, -1) := by simp [aA, fdA]
/-- the reference up to its frame -/
theorem ENT_ref {x : Int} (h6 : t 121 96 = x) (h7 : t 121 97 = (fu : Int)) (hx : 0 ≤ x ∧ x < (fu : Int)) (hy : fu ≤ 5000) (h88 : t 121 88 = (G.length : Int)) (hd : G.length < 40) (hsb : sb < 60) (h134 : t 134 sb = (B.length : Int)) (hB : B.length ≤ 12) (h131 : t 131 sb = soF U sb) (hso : soF U sb = 1 ∨ soF U sb = 2 ∨ soF U sb = 3) (hR : RTK t (M ++ (obL U sb o ++ B))) (hl : (M ++ (obL U sb o ++ B)).length ≤ 15360) : ∃ t', m_enter (sb : Int) t = m_enter_119 (sb : Int) (G.length : Int) (if soF U sb = 3 then o else 0) (G.length : Int) t' ∧ RTK t' M ∧ t' 121 96 = x + 1 ∧ (∀ j, j < B.length → t' 179 (24 * G.length + j) = B.getD j 0) ∧ (∀ j, B.length ≤ j → j < 24 → t' 179 (24 * G.length + j) = 0) ∧ (∀ c k, ¬ (c = 179 ∧ 24 * G.length ≤ k ∧ k < 24 * G.length + 24) → ¬ (c = 121 ∧ (k = 87 ∨ k = 96)) → t' c k = t c k) := by
  rw [← List.append_assoc] at hR hl
  obtain ⟨ta, a1, a2, a3, a4, a5, a6⟩ := ren_96 h6 h7 hx (by omega) h88 hd (by omega) h134 hB hR hl
  rw [a1]
  unfold m_enter_96
  rw [gd_pos (by omega), Int.toNat_natCast, a6 131 sb (by omega) (by omega), h131, gr (by omega)]
  by_cases c : soF U sb = 3
  · rw [if_pos c, if_pos c]
    unfold obL at a2 hl
    rw [if_pos c] at a2 hl
    obtain ⟨tb, b1, b2, b3⟩ := rpop_ex a2 (by
      rw [List.length_append, List.length_append] at hl
      omega)
    refine ⟨tb, by rw [b1, bq], b2, by rw [b3 121 96 (by omega)]; exact a3, fun j hj => by rw [b3 179 _ (by omega)]; exact a4 j hj, fun j h1 h2 => by rw [b3 179 _ (by omega)]; exact a5 j h1 h2, fun c k z1 z2 => by rw [b3 c k (by omega), a6 c k z1 z2]⟩
  · rw [if_neg c, if_neg c]
    unfold obL at a2
    rw [if_neg c, List.append_nil] at a2
    exact ⟨ta, rfl, a2, a3, a4, a5, a6⟩
/-- both machines at a sub's first item -/
theorem ENT_sim (hP : PRG F n N P s0 t0 K U W Y A I C p w tr t1 t2 t3) (hsb : sb < A.length) (hpg : PGM F P s0 t0 K U W A t3 q t) (hG : GOK F P s0 t0 K U W A q t G) (hB : B.length = nwP (sb : Int) W) (hBw : ∀ x ∈ B, w16 x) (how : w16 oF)
    (hws : t 121 95 = ((wsG F P s0 t0 K U W A G).length : Int) ∧ ∀ k, k < (wsG F P s0 t0 K U W A G).length → t 185 k = (P ((wsG F P s0 t0 K U W A G).getD k 0) : Int))
    (h13 : G.length < 40 ∧ q 51 17 = t 121 89 ∧ 0 ≤ q 51 17 ∧ q 51 17 ≤ 40) (hsta : ∀ k, k < 12 → q 54 k = t 178 k ∧ w16 (q 54 k))
    (hfu : q 51 15 = (fu : Int) ∧ t 121 97 = (fu : Int) ∧ fu ≤ 5000 ∧ 0 ≤ q 51 16 ∧ q 51 16 = t 121 96 ∧ t 121 96 < (fu : Int))
    (hcal : ∀ f' g', G = f' :: g' → t 121 98 = ((stA A f'.1 + f'.2.1 : Nat) : Int) ∧ q 51 7 = ((cpo F P s0 t0 K U W A f'.1 f'.2.1 : Nat) : Int) ∧ q 51 8 = ((csG U g').length : Int) ∧ q 51 9 = (((csG U g').length + (preF U f').length + f'.2.2.1.length : Nat) : Int) ∧ (soF U f'.1 ≠ 2 → q 51 10 = f'.2.2.2.2.2) ∧ (∃ w ws, (aA F P s0 t0 K U W A f'.1 f'.2.1).2.1 = w :: ws ∧ q 51 18 = (P w : Int)) ∧ f'.2.2.2.2.1.length + 1 = (aA F P s0 t0 K U W A f'.1 f'.2.1).1 ∧ (aA F P s0 t0 K U W A f'.1 f'.2.1).2.2.1 = true ∧ (aA F P s0 t0 K U W A f'.1 f'.2.1).2.2.2 = -1)
    (f14 : ∀ c k, 14 ≤ c ∧ c ≤ 19 ∨ c = 54 → s' c k = q c k) (f53 : ∀ k, k < 5 * G.length → s' 53 k = q 53 k) (g53 : s' 53 (5 * G.length) = q 51 7 ∧ s' 53 (5 * G.length + 1) = q 51 8 ∧ s' 53 (5 * G.length + 2) = q 51 9 ∧ s' 53 (5 * G.length + 3) = q 51 10 ∧ s' 53 (5 * G.length + 4) = q 51 18)
    (h51 : s' 51 13 = ((G.length + 1 : Nat) : Int) ∧ s' 51 17 = (if q 51 17 < ((G.length + 1 : Nat) : Int) then ((G.length + 1 : Nat) : Int) else q 51 17) ∧ s' 51 8 = ((csG U G).length : Int) ∧ s' 51 9 = ((csG U G ++ (obL U sb oF ++ B)).length : Int) ∧ (soF U sb ≠ 2 → s' 51 10 = oF) ∧ s' 51 15 = q 51 15 ∧ s' 51 16 = q 51 16 + 1 ∧ s' 51 7 = ((cpo F P s0 t0 K U W A sb 0 : Nat) : Int))
    (hSTK : STK s' ((csG U G ++ (obL U sb oF ++ B)) ++ List.replicate (nwV (sb : Int) W) 0)) (hRTK : RTK t' (rsG G)) (hL : LB s' t' ∧ gO s' t' ∧ s' 48 9 = 0 ∧ s' 51 14 = -1)
    (ft : ∀ c k, 128 ≤ c ∧ c ≤ 156 ∨ 164 ≤ c ∧ c ≤ 171 ∨ c = 178 ∨ c = 185 → t' c k = t c k) (ft2 : ∀ c k, 181 ≤ c ∧ c ≤ 184 → k < G.length → t' c k = t c k) (f179 : ∀ k, k < 24 * G.length → t' 179 k = t 179 k) (v179 : ∀ j, j < B.length → t' 179 (24 * G.length + j) = B.getD j 0) (z179 : ∀ j, B.length ≤ j → j < 24 → t' 179 (24 * G.length + j) = 0)
    (h183 : t' 183 G.length = oF) (h181 : t' 181 G.length = t 121 98) (h184 : t' 184 G.length = t 121 95) (h88 : t' 121 88 = ((G.length + 1 : Nat) : Int)) (h89 : t' 121 89 = (if ((G.length + 1 : Nat) : Int) ≤ t 121 89 then t 121 89 else ((G.length + 1 : Nat) : Int))) (h98 : t' 121 98 = (stA A sb : Int)) (h957 : t' 121 95 = t 121 95 ∧ t' 121 97 = t 121 97 ∧ t' 121 96 = t 121 96 + 1) : SIM F P s0 t0 K U W A t3 fu s' t' (sb, 0, B, List.replicate (nwV (sb : Int) W) 0, [], oF) G := by
  obtain ⟨⟨mm, g1⟩, g2, g3⟩ := hpg
  have fc : ∀ c k, 14 ≤ c → c ≤ 19 → s' c k = q c k := fun c k z1 z2 => f14 c k (Or.inl ⟨z1, z2⟩)
  have v12 := hP.2.2.2.2.1.2.2.2.2.1 (sb : Int)
  have p12 := hP.2.2.2.2.1.2.2.2.1 (sb : Int)
  have pre : preF U (sb, 0, B, List.replicate (nwV (sb : Int) W) 0, [], oF) = obL U sb oF := rfl
  have ew : wsG F P s0 t0 K U W A ((sb, 0, B, List.replicate (nwV (sb : Int) W) 0, [], oF) :: G) = wsG F P s0 t0 K U W A G := by
    show wsG F P s0 t0 K U W A G ++ (aA F P s0 t0 K U W A sb 0).2.1.reverse = _
    rw [aA_0]
    simp
  have nz : 0 < (A.getD sb []).length := by
    obtain ⟨l, j, e⟩ := (PRG_an hP hsb).2.2.2.2
    rw [e, List.length_append]
    simp
  have es : csG U ((sb, 0, B, List.replicate (nwV (sb : Int) W) 0, [], oF) :: G) = (csG U G ++ (obL U sb oF ++ B)) ++ List.replicate (nwV (sb : Int) W) 0 := by
    show csG U G ++ (preF U (sb, 0, B, List.replicate (nwV (sb : Int) W) 0, [], oF) ++ B ++ List.replicate (nwV (sb : Int) W) 0 ++ []) = _
    rw [pre, List.append_nil, List.append_assoc (csG U G)]
  obtain ⟨i1, i2, i3, i4, i5, i6, i7, i8⟩ := h51
  refine ⟨⟨⟨mm, ?_⟩, fun c k z => by rw [ft c k (by omega)]; exact g2 c k z, ?_⟩, ⟨⟨⟨hsb, nz⟩, ⟨hB, List.length_replicate⟩, ⟨hBw, fun x hx => ?_, fun x hx => by simp at hx, how⟩, v179, fun k hk => ?_, h183, by rw [h184]; exact hws.1, fun f' g' e => ?_⟩, GOK_of hP.2.2.2.2.1 G hG f53 f179 (fun k hk => ⟨ft2 181 k (by omega) hk, ft2 183 k (by omega) hk, ft2 184 k (by omega) hk⟩)⟩, ⟨by rw [es]; exact hSTK, ?_⟩, ⟨by rw [ew, h957.1]; exact hws.1, ?_⟩, ⟨i1, h88, by omega, ?_, ?_, ?_⟩, ⟨i3, ?_, i5⟩, fun k hk => by rw [f14 54 k (Or.inr rfl), ft 178 k (by omega)]; exact hsta k hk, hL, ⟨by rw [i6]; exact hfu.1, by rw [h957.2.1]; exact hfu.2.1, hfu.2.2.1, by omega, by omega, ?_⟩, ⟨h98, i8⟩, ?_, fun z _ => ?_⟩
  · obtain ⟨c1, c2, c3, c4⟩ := g1
    refine ⟨by rw [fc 14 8 (by omega) (by omega)]; exact c1, c2, fun j hj => ?_, by rw [fc 14 10 (by omega) (by omega)]; exact c4⟩
    rw [fc 15 j (by omega) (by omega), fc 16 j (by omega) (by omega), fc 17 j (by omega) (by omega), fc 18 j (by omega) (by omega), fc 19 j (by omega) (by omega)]
    exact c3 j hj
  · obtain ⟨c1, c2, c3⟩ := g3
    refine ⟨fun j hj => ?_, by rw [ft 164 _ (by omega)]; exact c2, fun j hj => ?_⟩
    · rw [ft 165 _ (by omega), ft 164 _ (by omega)]; exact c1 j hj
    · rw [ft 166 _ (by omega), ft 167 _ (by omega), ft 168 _ (by omega)]; exact c3 j hj
  · rw [(List.mem_replicate.mp hx).2]
    decide
  · have hk' : k < nwV (sb : Int) W := by
      have z : k < (List.replicate (nwV (sb : Int) W) (0 : Int)).length := hk
      rw [List.length_replicate] at z
      exact z
    show t' 179 (24 * G.length + 12 + k) = (List.replicate (nwV (sb : Int) W) (0 : Int)).getD k 0
    rw [Nat.add_assoc, z179 (12 + k) (by omega) (by omega), List.getD_eq_getElem?_getD, List.getElem?_replicate]
    split <;> rfl
  · obtain ⟨d1, d2, d3, d4, d5, d6, d7⟩ := hcal f' g' e
    rw [h181, g53.1, g53.2.1, g53.2.2.1, g53.2.2.2.1, g53.2.2.2.2]
    exact ⟨d1, d2, d3, d4, d5, d6, d7⟩
  · show RTK t' (rsG G ++ [])
    rw [List.append_nil]
    exact hRTK
  · rw [ew]
    intro k hk
    rw [ft 185 k (by omega)]
    exact hws.2 k hk
  · rw [i2, h89, h13.2.1]
    split <;> split <;> omega
  · rw [i2]
    split <;> omega
  · rw [i2]
    split <;> omega
  · rw [i4, pre, List.length_append, List.length_append]
    show (((csG U G).length + ((obL U sb oF).length + B.length) : Nat) : Int) = (((csG U G).length + (obL U sb oF).length + B.length : Nat) : Int)
    omega
  · show s' 51 16 + (if (aA F P s0 t0 K U W A sb 0).2.2.2 = -1 then 0 else 1) = t' 121 96
    rw [aA_0, if_pos rfl]
    omega
  · show ([] : List Int).length = (aA F P s0 t0 K U W A sb 0).1
    rw [aA_0]
    rfl
  · rw [aA_0] at z
    exact absurd z (by decide)
theorem cpo_00 : cpo F P s0 t0 K U W A u 0 = (cmN F P s0 t0 K U W A u).length + (hdU K U W u).length := by
  unfold cpo
  simp
theorem hdU_len (hso : soF U u = 1 ∨ soF U u = 2 ∨ soF U u = 3) : (hdU K U W u).length = if soF U u = 3 then 3 else if soF U u = 1 then 4 else 1 := by
  unfold hdU hdrU
  rcases hso with c | c | c <;> rw [c] <;> rfl
/-- a sub is entered, and its head is done -/
theorem ENT_ok {na : Nat} (hP : PRG F n N P s0 t0 K U W Y A I C p w tr t1 t2 t3) (hsb : sb < A.length) (hpg : PGM F P s0 t0 K U W A t3 q t) (hG : GOK F P s0 t0 K U W A q t G) (hB : B.length = nwP (sb : Int) W) (hBw : ∀ x ∈ B, w16 x) (how : w16 o)
    (hst : STK q (csG U G ++ (obL U sb o ++ B))) (hrt : RTK t (rsG G ++ (obL U sb o ++ B))) (hl1 : (csG U G ++ (obL U sb o ++ B)).length ≤ 15360) (hl2 : (rsG G ++ (obL U sb o ++ B)).length ≤ 15360) (hna : na = (obL U sb o ++ B).length)
    (hws : t 121 95 = ((wsG F P s0 t0 K U W A G).length : Int) ∧ ∀ k, k < (wsG F P s0 t0 K U W A G).length → t 185 k = (P ((wsG F P s0 t0 K U W A G).getD k 0) : Int))
    (h13 : (q 51 13 = (G.length : Int) ∧ t 121 88 = (G.length : Int)) ∧ G.length < 40 ∧ q 51 17 = t 121 89 ∧ 0 ≤ q 51 17 ∧ q 51 17 ≤ 40) (hsta : ∀ k, k < 12 → q 54 k = t 178 k ∧ w16 (q 54 k)) (hLB : LB q t ∧ gO q t ∧ q 48 9 = 0 ∧ q 51 14 = -1)
    (hfu : q 51 15 = (fu : Int) ∧ t 121 97 = (fu : Int) ∧ fu ≤ 5000 ∧ 0 ≤ q 51 16 ∧ q 51 16 = t 121 96 ∧ t 121 96 < (fu : Int))
    (hcal : ∀ f' g', G = f' :: g' → t 121 98 = ((stA A f'.1 + f'.2.1 : Nat) : Int) ∧ q 51 7 = ((cpo F P s0 t0 K U W A f'.1 f'.2.1 : Nat) : Int) ∧ q 51 8 = ((csG U g').length : Int) ∧ q 51 9 = (((csG U g').length + (preF U f').length + f'.2.2.1.length : Nat) : Int) ∧ (soF U f'.1 ≠ 2 → q 51 10 = f'.2.2.2.2.2) ∧ (∃ w ws, (aA F P s0 t0 K U W A f'.1 f'.2.1).2.1 = w :: ws ∧ q 51 18 = (P w : Int)) ∧ f'.2.2.2.2.1.length + 1 = (aA F P s0 t0 K U W A f'.1 f'.2.1).1 ∧ (aA F P s0 t0 K U W A f'.1 f'.2.1).2.2.1 = true ∧ (aA F P s0 t0 K U W A f'.1 f'.2.1).2.2.2 = -1)
    (hpl : 0 ≤ t 121 95 ∧ t 121 95 ≤ 1200 ∧ q 51 18 = (if t 121 95 ≤ 0 then t 121 74 else t 185 (t 121 95 - 1).toNat) ∧ 0 ≤ q 51 18 ∧ q 51 18 ≤ 100000) :
    ∃ (m : Nat) (s1 s' t' : iS), mac_enter ((cmN F P s0 t0 K U W A sb).length : Int) (na : Int) q = some (0, s1) ∧ nf s1 ∧ TN m s1 s' ∧ m_enter (sb : Int) t = some (0, t') ∧ t' 121 96 = t 121 96 + 1 ∧ t' 121 74 = t 121 74 ∧ m ≤ 4 ∧
      ((∃ f, SIM F P s0 t0 K U W A t3 fu s' t' f G ∧ m + rmC F P s0 t0 K U W A [f] ≤ 3000 ∧ rmI A [f] ≤ 3003) ∨ FIN fu s' t') := by
  obtain ⟨⟨r1, r1'⟩, ⟨r2, r2'⟩, ⟨r3, r3'⟩, ⟨r4, r4'⟩, r5, ⟨r6, r6'⟩, r7⟩ := sub_rows hP hsb hpg.2.1
  obtain ⟨mm, g1⟩ := hpg.1
  have t96 : 0 ≤ t 121 96 := by omega
  obtain ⟨s1, a1, a2, a3, a4, a5, a6, a7, a8, a9, a10⟩ := ent_ok (v1 := ((cmN F P s0 t0 K U W A sb).length : Int)) (na := na) (b := (csG U G).length) h13.1.1 h13.2.1 ⟨hfu.2.2.2.1, by omega, by omega⟩ (by rw [hst.1, List.length_append, hna]) (by rw [List.length_append] at hl1; omega) h13.2.2.2
  have nf1 : nf s1 := ⟨by rw [a2 44 5 (by omega) (by omega)]; exact hLB.2.1.1, by rw [a2 48 9 (by omega) (by omega)]; exact hLB.2.2.1⟩
  have st1 : STK s1 (csG U G ++ (obL U sb o ++ B)) := STK_of hst (a3 6 (by omega) (by omega) (by omega) (by omega) (by omega)) (funext fun k => a2 52 k (by omega) (by omega))
  have e14 : s1 51 14 = -1 := by rw [a3 14 (by omega) (by omega) (by omega) (by omega) (by omega)]; exact hLB.2.2.2
  have e15 : s1 51 15 = q 51 15 := a3 15 (by omega) (by omega) (by omega) (by omega) (by omega)
  have ce : ∀ c k, 14 ≤ c → c ≤ 19 → s1 c k = q c k := fun c k z1 z2 => a2 c k (by omega) (by omega)
  have R16 : 0 ≤ s1 51 16 ∧ s1 51 16 ≤ 5000 := by omega
  have R15 : 0 ≤ s1 51 15 ∧ s1 51 15 ≤ 5000 := by omega
  -- the reference
  obtain ⟨tb, b1, b2, b3, b4, b5, b6⟩ := ENT_ref (t := t) (U := U) (B := B) (o := o) (M := rsG G) (G := G) rfl hfu.2.1 ⟨t96, hfu.2.2.2.2.2⟩ hfu.2.2.1 h13.1.2 h13.2.1 r7 (by rw [r4, hB]) (by omega) r1 r1' hrt hl2
  have fb : ∀ c k, c ≠ 179 → c ≠ 121 → tb c k = t c k := fun c k z1 z2 => b6 c k (by omega) (by omega)
  obtain ⟨tc, c1, c2, c3, c4, c5, c6, c7, c8⟩ := ren_119 (t := tb) (sb := sb) (d := G.length) (cl := clF U sb) (o := if soF U sb = 3 then o else 0) (by rw [b6 121 88 (by omega) (by omega)]; exact h13.1.2) (by rw [b6 121 89 (by omega) (by omega)]; omega) h13.2.1 (by omega) (by rw [fb 131 sb (by omega) (by omega), r1]; omega) (by rw [fb 130 sb (by omega) (by omega)]; exact r2) (by omega) (by rw [fb 129 _ (by omega) (by omega), r3]; omega)
  rw [fb 131 sb (by omega) (by omega), fb 129 _ (by omega) (by omega), r1, r3] at c1
  rw [b6 121 98 (by omega) (by omega)] at c3
  rw [b6 121 95 (by omega) (by omega)] at c4
  rw [b6 121 89 (by omega) (by omega)] at c6
  rw [fb 136 sb (by omega) (by omega), r6] at c7
  have fc : ∀ c k, c ≠ 179 → ¬ (181 ≤ c ∧ c ≤ 184 ∧ k = G.length) → ¬ (c = 121 ∧ (k = 87 ∨ k = 88 ∨ k = 89 ∨ k = 96 ∨ k = 98)) → tc c k = t c k := fun c k z1 z2 z3 => by rw [c8 c k z2 (by omega), b6 c k (by omega) (by omega)]
  have tc179 : ∀ k, tc 179 k = tb 179 k := fun k => c8 179 k (by omega) (by omega)
  have rtc : RTK tc (rsG G) := RTK_of b2 (c8 121 87 (by omega) (by omega)) (funext fun k => c8 180 k (by omega) (by omega))
  have c96 : tc 121 96 = t 121 96 + 1 := by rw [c8 121 96 (by omega) (by omega)]; exact b3
  have lb1 : LB s1 tc := LB_of hLB.1 (fun c k z => a2 c k (by omega) (by omega)) (fun c k z => fc c k (by omega) (by omega) (by omega))
  have cm1 := cmN_mono (F := F) (P := P) (s0 := s0) (t0 := t0) (K := K) (U := U) (W := W) (A := A) (u := sb + 1) A.length (by omega)
  have cp0 := cpo_le (F := F) (P := P) (s0 := s0) (t0 := t0) (K := K) (U := U) (W := W) (A := A) (u := sb) (i := 0) (Nat.zero_le _)
  have cz : (cmN F P s0 t0 K U W A A.length).length ≤ 3000 := g1.2.1
  have c00 := cpo_00 (F := F) (P := P) (s0 := s0) (t0 := t0) (K := K) (U := U) (W := W) (A := A) (u := sb)
  have hdl := hdU_len (K := K) (U := U) (W := W) r1'
  have fin : ∀ (oF : Int) (m : Nat), m = (hdU K U W sb).length → m + rmC F P s0 t0 K U W A [(sb, 0, B, List.replicate (nwV (sb : Int) W) 0, [], oF)] ≤ 3000 ∧ rmI A [(sb, 0, B, List.replicate (nwV (sb : Int) W) 0, [], oF)] ≤ 3003 := fun oF m hm => by
    constructor
    · show m + ((cmN F P s0 t0 K U W A (sb + 1)).length - cpo F P s0 t0 K U W A sb 0 + 0) ≤ 3000
      omega
    · show (A.getD sb []).length - 0 + 0 ≤ 3003
      omega
  by_cases q1 : soF U sb = 1
  · -- a constructor
    have q3 : ¬ soF U sb = 3 := by omega
    have eo : ∀ x, obL U sb x = [] := fun x => by unfold obL; rw [if_neg q3]
    rw [if_neg q3] at b1 c1 c2
    rw [if_pos q1] at c1
    rw [if_neg q3, if_pos q1] at hdl
    obtain ⟨m, rv, s', ta, d1, d2, d3, d4, d5, d6, d7⟩ := hd_con (q := s1) (t := tc) g1 hsb ce e14 a9 R16 R15 nf1.2 r5 r3' q1 st1 (by omega) lb1 ⟨nf1.1, by rw [fc 121 99 (by omega) (by omega) (by omega)]; exact hLB.2.1.2⟩
    have e235 : m_enter (sb : Int) t = some (0, up ta 183 G.length rv) := by
      rw [b1, c1]
      unfold m_enter_235
      rw [d3, bq, gd_pos (by omega), Int.toNat_natCast, lt_eq]
    have fa : ∀ c k, c ≠ 175 → c ≠ 176 → c ≠ 177 → c ≠ 187 → ¬ (c = 183 ∧ k = G.length) → ¬ (c = 121 ∧ (k = 81 ∨ k = 99 ∨ k = 100 ∨ k = 103 ∨ k = 106 ∨ k = 108)) → up ta 183 G.length rv c k = tc c k := fun c k z1 z2 z3 z4 z5 z6 => by rw [up_ne (by omega), d4 c k z1 z2 z3 z4 z6]
    obtain ⟨tf, htf⟩ : ∃ tf, tf = up ta 183 G.length rv := ⟨_, rfl⟩
    have tf183 : tf 183 G.length = rv := by rw [htf, up_same]
    have lbf : LB s' tf := LB_of d5 (fun _ _ _ => rfl) (fun c k z => by rw [htf, up_ne (by omega)])
    have tf99 : tf 121 99 = ta 121 99 := by rw [htf, up_ne (by omega)]
    rw [← htf] at e235 fa
    have f121 : ∀ k, k = 74 ∨ k = 87 ∨ k = 88 ∨ k = 89 ∨ k = 95 ∨ k = 96 ∨ k = 97 ∨ k = 98 → tf 121 k = tc 121 k := fun k z => fa 121 k (by omega) (by omega) (by omega) (by omega) (by omega) (by omega)
    have fs : ∀ c k, ¬ (44 ≤ c ∧ c ≤ 49) → c ≠ 52 → c ≠ 51 → c ≠ 53 → s' c k = q c k := fun c k z0 z1 z2 z3 => by rw [d6 c k z0 z1 (by omega), a2 c k z2 z3]
    have f96 : tf 121 96 = t 121 96 + 1 := by rw [f121 96 (by omega)]; exact c96
    have f74 : tf 121 74 = t 121 74 := by rw [f121 74 (by omega), fc 121 74 (by omega) (by omega) (by omega)]
    refine ⟨m, s1, s', tf, a1, nf1, d1, e235, f96, f74, d2, ?_⟩
    rcases d7 with ⟨j1, j2, j3, j4, j5, j6, j7, j8, j9⟩ | ⟨j1, j2⟩
    · refine Or.inl ⟨(sb, 0, B, List.replicate (nwV (sb : Int) W) 0, [], rv), ?_, fin rv m (by omega)⟩
      refine ENT_sim hP hsb hpg hG hB hBw j8 hws ⟨h13.2.1, h13.2.2⟩ hsta hfu hcal (fun c k z => fs c k (by omega) (by omega) (by omega) (by omega)) (fun k hk => by rw [d6 53 k (by omega) (by omega) (by omega)]; exact a4 k hk) ?_ ⟨?_, ?_, ?_, ?_, fun _ => j7, ?_, ?_, ?_⟩ ?_ ?_ ⟨lbf, ⟨j2.1, by rw [tf99]; exact j2.2⟩, j3, j4⟩ ?_ ?_ ?_ ?_ ?_ tf183 ?_ ?_ ?_ ?_ ?_ ⟨?_, ?_, f96⟩
      · rw [d6 53 _ (by omega) (by omega) (by omega), d6 53 _ (by omega) (by omega) (by omega), d6 53 _ (by omega) (by omega) (by omega), d6 53 _ (by omega) (by omega) (by omega), d6 53 _ (by omega) (by omega) (by omega)]
        exact a5
      · rw [d6 51 13 (by omega) (by omega) (by omega)]; exact a6
      · rw [d6 51 17 (by omega) (by omega) (by omega)]; exact a7
      · rw [d6 51 8 (by omega) (by omega) (by omega)]; exact a8
      · rw [j6, eo, eo]
      · rw [d6 51 15 (by omega) (by omega) (by omega)]; exact e15
      · rw [d6 51 16 (by omega) (by omega) (by omega)]; exact a10
      · rw [j9, c00, hdl]
      · rw [eo] at j5 ⊢; exact j5
      · exact RTK_of rtc (f121 87 (by omega)) (funext fun k => fa 180 k (by omega) (by omega) (by omega) (by omega) (by omega) (by omega))
      · intro c k z
        rw [fa c k (by omega) (by omega) (by omega) (by omega) (by omega) (by omega), fc c k (by omega) (by omega) (by omega)]
      · intro c k z1 z2
        rw [fa c k (by omega) (by omega) (by omega) (by omega) (by omega) (by omega), fc c k (by omega) (by omega) (by omega)]
      · intro k hk
        rw [fa 179 k (by omega) (by omega) (by omega) (by omega) (by omega) (by omega), tc179, b6 179 k (by omega) (by omega)]
      · intro j hj
        rw [fa 179 _ (by omega) (by omega) (by omega) (by omega) (by omega) (by omega), tc179]
        exact b4 j hj
      · intro j hj hj2
        rw [fa 179 _ (by omega) (by omega) (by omega) (by omega) (by omega) (by omega), tc179]
        exact b5 j hj hj2
      · rw [fa 181 _ (by omega) (by omega) (by omega) (by omega) (by omega) (by omega)]; exact c3
      · rw [fa 184 _ (by omega) (by omega) (by omega) (by omega) (by omega) (by omega)]; exact c4
      · rw [f121 88 (by omega)]; exact c5
      · rw [f121 89 (by omega)]; exact c6
      · rw [f121 98 (by omega)]; exact c7
      · rw [f121 95 (by omega), fc 121 95 (by omega) (by omega) (by omega)]
      · rw [f121 97 (by omega), fc 121 97 (by omega) (by omega) (by omega)]
    · refine Or.inr ⟨⟨by rw [j1, tf99, j2], by rw [j1]; decide, by rw [j1]; decide⟩, lbf, ?_, ⟨?_, ?_⟩, ?_, ⟨?_, ?_⟩, fun _ => ?_⟩
      · rw [d6 51 16 (by omega) (by omega) (by omega), a10, f96]; omega
      · rw [d6 51 16 (by omega) (by omega) (by omega)]; omega
      · rw [d6 51 16 (by omega) (by omega) (by omega)]; omega
      · rw [d6 51 17 (by omega) (by omega) (by omega), a7, f121 89 (by omega), c6, h13.2.2.1]
        split <;> split <;> omega
      · rw [d6 51 17 (by omega) (by omega) (by omega), a7]
        split <;> omega
      · rw [d6 51 17 (by omega) (by omega) (by omega), a7]
        split <;> omega
      · rw [f121 95 (by omega), fc 121 95 (by omega) (by omega) (by omega), f74, fa 185 _ (by omega) (by omega) (by omega) (by omega) (by omega) (by omega), fc 185 _ (by omega) (by omega) (by omega), d6 51 18 (by omega) (by omega) (by omega), a3 18 (by omega) (by omega) (by omega) (by omega) (by omega)]
        exact hpl
  · -- a function or a method: no object is made
    rw [if_neg q1] at c1
    have e119 : m_enter (sb : Int) t = some (0, tc) := by rw [b1, c1]
    have f74 : tc 121 74 = t 121 74 := fc 121 74 (by omega) (by omega) (by omega)
    have sim : ∀ (oF : Int) (s' : iS), w16 oF → tc 183 G.length = oF → obL U sb oF = obL U sb o → (soF U sb ≠ 2 → s' 51 10 = oF) → STK s' ((csG U G ++ (obL U sb o ++ B)) ++ List.replicate (nwV (sb : Int) W) 0) → s' 51 9 = ((csG U G ++ (obL U sb o ++ B)).length : Int) → s' 51 7 = ((cpo F P s0 t0 K U W A sb 0 : Nat) : Int) → (∀ c k, c ≠ 52 → ¬ (c = 51 ∧ (k = 6 ∨ k = 7 ∨ k = 9 ∨ k = 10)) → s' c k = s1 c k) → SIM F P s0 t0 K U W A t3 fu s' tc (sb, 0, B, List.replicate (nwV (sb : Int) W) 0, [], oF) G := fun oF s' w1 w2 w3 w4 w5 w6 w7 w8 => by
      refine ENT_sim hP hsb hpg hG hB hBw w1 hws ⟨h13.2.1, h13.2.2⟩ hsta hfu hcal (fun c k z => by rw [w8 c k (by omega) (by omega), a2 c k (by omega) (by omega)]) (fun k hk => by rw [w8 53 k (by omega) (by omega)]; exact a4 k hk) ?_ ⟨?_, ?_, ?_, ?_, w4, ?_, ?_, w7⟩ ?_ rtc ⟨?_, ⟨?_, ?_⟩, ?_, ?_⟩ ?_ ?_ ?_ ?_ ?_ w2 c3 c4 c5 c6 c7 ⟨?_, ?_, c96⟩
      · rw [w8 53 _ (by omega) (by omega), w8 53 _ (by omega) (by omega), w8 53 _ (by omega) (by omega), w8 53 _ (by omega) (by omega), w8 53 _ (by omega) (by omega)]
        exact a5
      · rw [w8 51 13 (by omega) (by omega)]; exact a6
      · rw [w8 51 17 (by omega) (by omega)]; exact a7
      · rw [w8 51 8 (by omega) (by omega)]; exact a8
      · rw [w6, w3]
      · rw [w8 51 15 (by omega) (by omega)]; exact e15
      · rw [w8 51 16 (by omega) (by omega)]; exact a10
      · rw [w3]; exact w5
      · exact LB_of lb1 (fun c k z => w8 c k (by omega) (by omega)) (fun _ _ _ => rfl)
      · rw [w8 44 5 (by omega) (by omega)]; exact nf1.1
      · rw [fc 121 99 (by omega) (by omega) (by omega)]; exact hLB.2.1.2
      · rw [w8 48 9 (by omega) (by omega)]; exact nf1.2
      · rw [w8 51 14 (by omega) (by omega)]; exact e14
      · intro c k z
        exact fc c k (by omega) (by omega) (by omega)
      · intro c k z1 z2
        exact fc c k (by omega) (by omega) (by omega)
      · intro k hk
        rw [tc179, b6 179 k (by omega) (by omega)]
      · intro j hj
        rw [tc179]
        exact b4 j hj
      · intro j hj hj2
        rw [tc179]
        exact b5 j hj hj2
      · exact fc 121 95 (by omega) (by omega) (by omega)
      · exact fc 121 97 (by omega) (by omega) (by omega)
    by_cases q3 : soF U sb = 3
    · have eo : obL U sb o = [o] := by unfold obL; rw [if_pos q3]
      rw [if_pos q3] at c2
      rw [if_pos q3] at hdl
      have st1' : STK s1 (csG U G ++ (o :: B)) := by
        rw [eo] at st1
        exact st1
      have l1' : (csG U G ++ (o :: B)).length ≤ 15500 := by
        rw [eo] at hl1
        have : (csG U G ++ (o :: B)).length ≤ 15360 := hl1
        omega
      obtain ⟨s', d1, d2, d3, d4, d5, d6⟩ := hd_met g1 hsb ce e14 a9 R16 R15 nf1 r5 q3 a8 st1' l1'
      refine ⟨3, s1, s', tc, a1, nf1, d1, e119, c96, f74, by omega, Or.inl ⟨_, sim o s' how c2 rfl (fun _ => d4) (by rw [eo]; exact d2) (by rw [eo]; exact d3) (by rw [d5, c00, hdl]) d6, fin o 3 hdl.symm⟩⟩
    · have eo : ∀ x, obL U sb x = [] := fun x => by unfold obL; rw [if_neg q3]
      rw [if_neg q3] at c2
      rw [if_neg q3, if_neg q1] at hdl
      obtain ⟨s', d1, d2, d3, d4, d5⟩ := hd_fun g1 hsb ce e14 a9 R16 R15 nf1 r5 st1 (by omega)
      refine ⟨1, s1, s', tc, a1, nf1, d1, e119, c96, f74, by omega, Or.inl ⟨_, sim 0 s' (by decide) c2 (by rw [eo, eo]) (fun z => absurd (show soF U sb = 2 by omega) z) d2 d3 (by rw [d4, c00, hdl]) (fun c k z1 z2 => d5 c k z1 (by omega)), fin 0 1 hdl.symm⟩⟩
end ROm
