/-! declarations: a row of variables -/
section TXf
variable {F : Nat → Int} {n N : Nat} {P : Nat → Nat} {s0 t0 : iS} {T : TXP} {TV : Int → Int → Prop} {Z : iS → Prop} {b : Int} {g : Nat} {K : List Nat} {U : List urec} {W : List wrec} {Y : List Nat} {A : List (List itm)} {s s1 t t1 t2 : iS} {p o w I C : Nat} {v r y : Int}
theorem lp_none {L E : Type} {f : L → Option (L ⊕ E)} {l : L} (h : f l = none) : lp f l = none := by rw [lp_eq, h]; rfl
theorem md_nx {v1 v2 v3 x x' : Int} {t t' : iS} (h : m_declares_12b v1 v2 v3 x t = some (.inl (x', t'))) : m_declares_12 v1 v2 v3 x t = m_declares_12 v1 v2 v3 x' t' := by
  unfold m_declares_12
  rw [lp_next (f := fun l : Int × iS => m_declares_12b v1 v2 v3 (l.1) (l.2)) (l := (x, t)) h]
theorem md_en {v1 v2 v3 x : Int} {t : iS} {e : iS ⊕ (iS ⊕ iS)} (h : m_declares_12b v1 v2 v3 x t = some (.inr e)) : m_declares_12 v1 v2 v3 x t = e.elim (fun e => m_declares_43 e) (fun e => e.elim (fun e => some (0, e)) (fun e => m_declares_211 e)) := by
  unfold m_declares_12
  rw [lp_end (f := fun l : Int × iS => m_declares_12b v1 v2 v3 (l.1) (l.2)) (l := (x, t)) h, bn]
theorem md_0 {v1 v2 v3 : Int} {t : iS} : m_declares_12 v1 v2 v3 0 t = m_declares_211 t := by
  rw [md_en (e := .inr (.inr t)) (by unfold m_declares_12b; rw [gr (by omega), if_pos rfl])]
  rfl
theorem rv_nx {v1 v2 x x' : Int} {s s' : iS} (h : trl_readVariables_13b v1 v2 x s = some (.inl (x', s'))) : trl_readVariables_13 v1 v2 x s = trl_readVariables_13 v1 v2 x' s' := by
  unfold trl_readVariables_13
  rw [lp_next (f := fun l : Int × iS => trl_readVariables_13b v1 v2 (l.1) (l.2)) (l := (x, s)) h]
theorem rv_en {v1 v2 x : Int} {s s' : iS} (h : trl_readVariables_13b v1 v2 x s = some (.inr s')) : trl_readVariables_13 v1 v2 x s = trl_readVariables_57 s' := by
  unfold trl_readVariables_13
  rw [lp_end (f := fun l : Int × iS => trl_readVariables_13b v1 v2 (l.1) (l.2)) (l := (x, s)) h, bn]
theorem DX_mono {M M' : Nat} {q : Int} {cl : Option (Int × iS)} (h : DX M b Z s0 t0 N P q t1 cl) (hM : M ≤ M') : DX M' b Z s0 t0 N P q t1 cl := by
  obtain ⟨f, u, h1, h2, h3, h4⟩ := h
  exact ⟨f, u, h1, RD_mono h2 hM, h3, h4⟩
/-- what the class does behind a fault keeps it there -/
def CTZ (Z : iS → Prop) (s0 : iS) (N : Nat) (k : iS → Option (Int × iS)) : Prop := ∀ s f u, ft f u N → CD s0 N s f u → Z s → ∃ r s', k s = some (r, s') ∧ CD s0 N s' f u ∧ Z s'
theorem DX_c {M : Nat} {q : Int} {cl : Option (Int × iS)} {k : Int → iS → Option (Int × iS)} (h : DX M b Z s0 t0 N P q t1 cl) (hk : ∀ x, CTZ Z s0 N (k x)) : DX M b Z s0 t0 N P q t1 (bd cl k) := by
  obtain ⟨f, u, h1, h2, h3, h4⟩ := h
  refine ⟨f, u, h1, h2, h3, fun hb => ?_⟩
  obtain ⟨r', s', e, d, z⟩ := h4 hb
  obtain ⟨r2, s2, e2, d2, z2⟩ := hk r' s' f u h1 d z
  exact ⟨r2, s2, by rw [e, bq, e2], d2, z2⟩
theorem CTZ_v13 (h : TKR 0 F n N P s0 t0) {x : Int} (hx : 0 ≤ x ∧ x < 100000) : CTZ Z s0 N (trl_readVariables_13 v r x) := fun s f u hf hd hz => ⟨0, s, cz_var13 h hf hd hx, hd, hz⟩
/-- a row of names, and the sign behind it -/
theorem x_names (h : TKR 0 F n N P s0 t0) (hT : RHT T TV Z b s0 N P) (hK : K ≠ []) (hv : v = 2 ∧ U ≠ [] ∨ v = 3 ∨ v = 4) (hy : TV y r) (hg : g = 0 ∧ (v = 3 ∨ v = 4) ∨ g = 2 ∧ v = 2) {u so : Int} (hu : u = if v = 2 then (U.length : Int) - 1 else -1) (hso : so = if v = 2 then 3 else if v = 3 then 0 else 1) : ∀ (d : Nat) (W : List wrec) (s t : iS) (p x : Nat), N - p ≤ d → LXT s0 t0 N s t p o w I C → T g K U W Y A s → RXT K U W t → W.length ≤ p → x ≤ p →
    (∃ s2 t2 p2 l, bd (trl_declare v r s) (fun _ s2 => trl_readVariables_13 v r (x : Int) s2) = some (0, s2) ∧ m_declares_12 u so y 1 t = some (0, t2) ∧ LXT s0 t0 N s2 t2 p2 o w I C ∧ T g K U (W ++ l) Y A s2 ∧ RXT K U (W ++ l) t2 ∧ ((W ++ l).length ≤ p2 ∧ ∀ e ∈ l, e.2.2.2.2.1 < p2 ∧ e.1 = (K.length : Int) - 1 ∧ e.2.1 = u) ∧ p < p2 ∧ FDX t t2 ∧ l ≠ [] ∧ ∀ e ∈ l, e.2.2.2.1 = y ∧ e.2.2.2.2.1 < N ∧ s0 9 e.2.2.2.2.1 = 3) ∨
    (∃ t2, m_declares_12 u so y 1 t = some (0, t2) ∧ DX 3010 b Z s0 t0 N P (t 121 17) t2 (bd (trl_declare v r s) (fun _ s2 => trl_readVariables_13 v r (x : Int) s2))) := by
  have hN2 := N1001 h
  intro d
  induction d with
  | zero => intro W s t p x hd hL; have := hL.2.2.2.2.1; omega
  | succ d ih =>
    intro W s t p x hd hL hs hX hW hx
    have nu : (wNew v K U W y p).2.1 = u := by
      rw [hu]
      show (if v = 1 ∨ v = 2 then (U.length : Int) - 1 else -1) = _
      by_cases q : v = 2
      · rw [if_pos (Or.inr q), if_pos q]
      · rw [if_neg (by omega), if_neg q]
    have q1 : N - (p + 1 + 1) ≤ d := by omega
    have hL' := hL
    obtain ⟨h1, h2, h3, h4, h5, h6, _⟩ := hL
    obtain ⟨c1, c2, c3⟩ := c_decl h hT hL' hs hy (v := v) (by omega) hW
    obtain ⟨r1, r2, r3⟩ := r_decl (y := y) h hL' hX hK hv hW hu hso
    by_cases k3 : s0 9 p = 3
    · by_cases k12 : nwW v K U W < 12
      · obtain ⟨s1, e1, e2, e3⟩ := c1 k3 k12
        obtain ⟨t1, f1, f2, f3, f4⟩ := r1 k3 k12
        have hp1 : p + 1 < N := tkL h h5 (by omega)
        have g3 : SR t0 t1 := FDX_SR f3 h2
        have F3 : ∀ k, k = 11 ∨ k = 48 ∨ k = 49 ∨ k = 33 ∨ k = 39 ∨ k = 17 → t1 121 k = t 121 k := fun k hk => f3 121 k (by omega) (by omega) (by omega) (by omega) (by omega)
        have L1 : LXT s0 t0 N s1 t1 p o w I C := LXT_r (LXT_MX hL' e3) g3 (fun k hk => by
          by_cases c : k = 10
          · rw [c]; exact f4
          · exact F3 k (by omega))
        have L2 := LXT_go L1 hp1
        have T2 := (hT.1 _ _ _ _ _ _ s1 ((p + 1 : Nat) : Int) e2).1
        have X2 := RXT_10 (x := ((p + 1 : Nat) : Int)) f2
        have ty : (wNew v K U W y p).2.2.2.1 = y ∧ (wNew v K U W y p).2.2.2.2.1 < N ∧ s0 9 (wNew v K U W y p).2.2.2.2.1 = 3 := ⟨rfl, h5, k3⟩
        have wl : (W ++ [wNew v K U W y p]).length = W.length + 1 := by rw [List.length_append]; rfl
        have go : m_go t1 = some (0, up t1 121 10 ((p + 1 : Nat) : Int)) := rGo L1.2.2.2.2.2.1 L1.2.2.2.1
        have sg := rS h L2.2.1 L2.2.2.2.1 hp1 (c := 44) (by omega)
        have k1 := cK h L2.1 L2.2.2.1 hp1
        have kk := tkK h hp1
        have z9 : -2147483648 ≤ s0 9 (p + 1) ∧ s0 9 (p + 1) ≤ 2147483647 := by
          rw [if_pos rfl] at kk
          omega
        rw [e1, bq]
        by_cases k44 : s0 9 (p + 1) = 44
        · have hp2 : p + 1 + 1 < N := tkL h hp1 (by omega)
          have E : m_declares_12 u so y 1 t = m_declares_12 u so y 1 (up (up t1 121 10 ((p + 1 : Nat) : Int)) 121 10 ((p + 1 + 1 : Nat) : Int)) := by
            refine md_nx ?_
            rw [f1]
            unfold m_declares_187
            rw [go, bq, sg, bq, if_pos k44, gr (by omega), if_neg (by omega), rGo L2.2.2.2.2.2.1 L2.2.2.2.1, bq]
          have L3 := LXT_go L2 hp2
          have T3 := (hT.1 _ _ _ _ _ _ _ ((p + 1 + 1 : Nat) : Int) T2).1
          have X3 := RXT_10 (x := ((p + 1 + 1 : Nat) : Int)) X2
          have Ec : trl_readVariables_13 v r (x : Int) (up s1 2 12 ((p + 1 : Nat) : Int)) = bd (trl_declare v r (up (up s1 2 12 ((p + 1 : Nat) : Int)) 2 12 ((p + 1 + 1 : Nat) : Int))) (fun _ s2 => trl_readVariables_13 v r ((x + 1 : Nat) : Int) s2) := by
            have B : trl_readVariables_13b v r (x : Int) (up s1 2 12 ((p + 1 : Nat) : Int)) = bd (trl_declare v r (up (up s1 2 12 ((p + 1 : Nat) : Int)) 2 12 ((p + 1 + 1 : Nat) : Int))) (fun _ s7 => some (.inl (((x : Int) + 1), s7))) := by
              unfold trl_readVariables_13b
              rw [gr (by omega), if_neg (by omega), k1, bq, gr z9, if_pos k44, lt_eq, up_same]
              rfl
            rcases hD : trl_declare v r (up (up s1 2 12 ((p + 1 : Nat) : Int)) 2 12 ((p + 1 + 1 : Nat) : Int)) with _ | ⟨a, s7⟩
            · rw [hD] at B
              unfold trl_readVariables_13
              rw [lp_none (f := fun l : Int × iS => trl_readVariables_13b v r (l.1) (l.2)) (l := ((x : Int), up s1 2 12 ((p + 1 : Nat) : Int))) B]
              rfl
            · rw [hD, bq] at B
              rw [rv_nx B, bq]
              rfl
          rw [E, Ec]
          have q2 : (W ++ [wNew v K U W y p]).length ≤ p + 1 + 1 := by omega
          have q3 : x + 1 ≤ p + 1 + 1 := by omega
          rcases ih _ _ _ (p + 1 + 1) (x + 1) q1 L3 T3 X3 q2 q3 with ⟨s2, t2, p2, l, a1, a2, a3, a4, a5, a6, a7, a8, a9, a10⟩ | ⟨t2, a1, a2⟩
          · refine Or.inl ⟨s2, t2, p2, wNew v K U W y p :: l, a1, a2, a3, ?_, ?_, ?_, by omega, FDX_trans f3 (FDX_trans FDX_10 (FDX_trans FDX_10 a8)), List.cons_ne_nil _ _, fun e he => ?_⟩
            · rw [List.append_cons]; exact a4
            · rw [List.append_cons]; exact a5
            · refine ⟨by rw [List.append_cons]; exact a6.1, fun e he => ?_⟩
              rcases List.mem_cons.mp he with q | q
              · rw [q]; exact ⟨by show p < p2; omega, rfl, nu⟩
              · exact a6.2 e q
            · rcases List.mem_cons.mp he with q | q
              · rw [q]; exact ty
              · exact a10 e q
          · refine Or.inr ⟨t2, a1, ?_⟩
            rw [up_ne (by omega), up_ne (by omega), F3 17 (by omega)] at a2
            exact a2
        · have E : m_declares_12 u so y 1 t = m_declares_211 (up t1 121 10 ((p + 1 : Nat) : Int)) := by
            rw [md_nx (x' := 0) (t' := up t1 121 10 ((p + 1 : Nat) : Int)) (by
              rw [f1]
              unfold m_declares_187
              rw [go, bq, sg, bq, if_neg k44, gr (by omega), if_pos rfl]), md_0]
          have Ec : trl_readVariables_13 v r (x : Int) (up s1 2 12 ((p + 1 : Nat) : Int)) = trl_readVariables_57 (up s1 2 12 ((p + 1 : Nat) : Int)) := by
            refine rv_en ?_
            unfold trl_readVariables_13b
            rw [gr (by omega), if_neg (by omega), k1, bq, gr z9, if_neg k44]
          rw [E, Ec]
          unfold m_declares_211 trl_readVariables_57
          rcases x_need h hT L2 T2 (c := 59) (by omega) with ⟨b1, b2, b3, b4⟩ | ⟨t2, b1, b2⟩
          · rw [b3, bq, b4, bq]
            exact Or.inl ⟨_, _, p + 1 + 1, [wNew v K U W y p], rfl, rfl, LXT_go L2 b2, (hT.1 _ _ _ _ _ _ _ _ T2).1, RXT_10 X2, ⟨by omega, fun e he => by rw [List.mem_singleton.mp he]; exact ⟨by show p < p + 1 + 1; omega, rfl, nu⟩⟩, by omega, FDX_trans f3 (FDX_trans FDX_10 FDX_10), List.cons_ne_nil _ _, fun e he => by rw [List.mem_singleton.mp he]; exact ty⟩
          · rw [b1, bq]
            rw [up_ne (by omega), F3 17 (by omega)] at b2
            exact Or.inr ⟨t2, rfl, DX_c b2 (fun _ s f u hf hd hz => ⟨0, s, rfl, hd, hz⟩)⟩
      · refine Or.inr ⟨flt t 2 P p, ?_, DX_c (x_stop h hT hL' hs (Or.inr rfl) (fun hb => ⟨0, c3 k3 (by omega) hb⟩)) (fun _ => CTZ_v13 h (by omega))⟩
        rw [md_en (r3 k3 (by omega))]
        rfl
    · have hf : (if s0 9 p = 2 then (2 : Int) else 1) = 1 ∨ (if s0 9 p = 2 then (2 : Int) else 1) = 2 := by split <;> omega
      refine Or.inr ⟨flt t (if s0 9 p = 2 then (2 : Int) else 1) P p, ?_, DX_c (x_stop h hT hL' hs hf (fun hb => ⟨0, c2 k3 hb⟩)) (fun _ => CTZ_v13 h (by omega))⟩
      rw [md_en (r2 k3)]
      show m_declares_43 t = _
      unfold m_declares_43
      rw [rSy h h2 h6 h4 h5, bq]
end TXf
