/-! parameters -/
section TXh
variable {F : Nat → Int} {n N : Nat} {P : Nat → Nat} {s0 t0 : iS} {T : TXP} {TV : Int → Int → Prop} {Z : iS → Prop} {b : Int} {g : Nat} {K : List Nat} {U : List urec} {W : List wrec} {Y Y1 : List Nat} {A : List (List itm)} {s s1 t t1 t2 : iS} {p o w I C : Nat} {v r y : Int}
theorem CTZ_ks (hT : RHT T TV Z b s0 N P) {k : iS → Option (Int × iS)} (hk : ∀ s f u, ft f u N → CD s0 N s f u → TD s → ∃ s', k s = some (0, s') ∧ CD s0 N s' f u ∧ KS s s') : CTZ Z s0 N k := fun s f u hf hd hz => by
  obtain ⟨s', e, d, q⟩ := hk s f u hf hd (hT.2.2.1 s hz)
  exact ⟨0, s', e, d, hT.2.2.2.1 _ _ hz (KS_ZK q)⟩
theorem pm_nx {u x x' : Int} {t t' : iS} (h : m_parameters_21b u x t = some (.inl (x', t'))) : m_parameters_21 u x t = m_parameters_21 u x' t' := by
  unfold m_parameters_21
  rw [lp_next (f := fun l : Int × iS => m_parameters_21b u (l.1) (l.2)) (l := (x, t)) h]
theorem pm_en {u x : Int} {t : iS} {e : iS ⊕ (iS ⊕ iS)} (h : m_parameters_21b u x t = some (.inr e)) : m_parameters_21 u x t = e.elim (fun e => some (0, e)) (fun e => e.elim (fun e => m_parameters_58 e) (fun e => m_parameters_138 e)) := by
  unfold m_parameters_21
  rw [lp_end (f := fun l : Int × iS => m_parameters_21b u (l.1) (l.2)) (l := (x, t)) h, bn]
theorem pm_0 {u : Int} {t : iS} : m_parameters_21 u 0 t = m_parameters_138 t := by
  rw [pm_en (e := .inr (.inr t)) (by unfold m_parameters_21b; rw [gr (by omega), if_pos rfl])]
  rfl
theorem pm_d {u x : Int} {t : iS} (hx : x = 0 ∨ x = 1) (hf : 0 < t 121 11 ∧ t 121 11 < 100) : m_parameters_21 u x t = m_parameters_138 t := by
  rcases hx with c | c
  · rw [c, pm_0]
  · rw [c, pm_en (e := .inr (.inr t)) (by unfold m_parameters_21b; rw [gr (by omega), if_neg (by omega), gr (by omega), if_neg (by omega)])]
    rfl
theorem rp_nx {x x' : Int} {s s' : iS} (h : trl_readParameters_32b x s = some (.inl (x', s'))) : trl_readParameters_32 x s = trl_readParameters_32 x' s' := by
  unfold trl_readParameters_32
  rw [lp_next (f := fun l : Int × iS => trl_readParameters_32b (l.1) (l.2)) (l := (x, s)) h]
theorem rp_en {x : Int} {s s' : iS} (h : trl_readParameters_32b x s = some (.inr s')) : trl_readParameters_32 x s = trl_readParameters_79 s' := by
  unfold trl_readParameters_32
  rw [lp_end (f := fun l : Int × iS => trl_readParameters_32b (l.1) (l.2)) (l := (x, s)) h, bn]
theorem rp_no {x : Int} {s : iS} (h : trl_readParameters_32b x s = none) : trl_readParameters_32 x s = none := by
  unfold trl_readParameters_32
  rw [lp_none (f := fun l : Int × iS => trl_readParameters_32b (l.1) (l.2)) (l := (x, s)) h]
  rfl
/-- the end of the parameters -/
theorem x_pend (h : TKR 0 F n N P s0 t0) (hT : RHT T TV Z b s0 N P) (hL : LXT s0 t0 N s t p o w I C) (hs : T 1 K U W Y A s) :
    (∃ s2, p + 1 < N ∧ trl_readParameters_79 s = some (0, s2) ∧ m_parameters_138 t = some (0, up t 121 10 ((p + 1 : Nat) : Int)) ∧ LXT s0 t0 N s2 (up t 121 10 ((p + 1 : Nat) : Int)) (p + 1) o w I C ∧ T 2 K U W Y A s2) ∨
    (∃ t2, m_parameters_138 t = some (0, t2) ∧ DX 3010 b Z s0 t0 N P (t 121 17) t2 (trl_readParameters_79 s)) := by
  unfold trl_readParameters_79 m_parameters_138
  rcases x_need h hT hL hs (c := 41) (by omega) with ⟨b1, b2, b3, b4⟩ | ⟨t2, b1, b2⟩
  · have L2 := LXT_go hL b2
    have T2 := (hT.1 _ _ _ _ _ _ _ ((p + 1 : Nat) : Int) hs).1
    obtain ⟨s2, e1, e2, e3⟩ := hT.2.2.2.2.2.2.2.2.2.1 _ _ _ _ _ _ T2 L2.1
    rw [b3, bq, e1, bq, b4, bq]
    exact Or.inl ⟨s2, b2, rfl, rfl, LXT_MX L2 e3, e2⟩
  · rw [b1, bq]
    exact Or.inr ⟨t2, rfl, DX_c b2 (fun _ => CTZ_ks hT (fun s f u hf hd ht => by
      obtain ⟨s', e, d1, d2⟩ := cz_tell hd ht
      exact ⟨s', by rw [e, bq], d1, d2⟩))⟩
theorem RD_25 {x : Int} {f : Int} {u M : Nat} (h : RD t0 N P t f u M) : RD t0 N P (up t 121 25 x) f u M := by
  obtain ⟨h1, ⟨p, h2, h3⟩, h4, h5, ⟨I, h6, h7⟩, h8⟩ := h
  exact ⟨SR_up h1 (by omega), ⟨p, h2, by rw [up_ne (by omega)]; exact h3⟩, by rw [up_ne (by omega)]; exact h4, by rw [up_ne (by omega)]; exact h5, ⟨I, by rw [up_ne (by omega)]; exact h6, h7⟩, by rw [up_ne (by omega)]; exact h8⟩
theorem RD_dcl {f : Int} {u M w : Nat} {v1 v2 v3 v4 v5 v6 : Int} (h : RD t0 N P t f u M) : RD t0 N P (dcl t w v1 v2 v3 v4 v5 v6) f u M := by
  unfold dcl
  exact RD_25 (RD_upr (RD_upr (RD_upr (RD_upr (RD_upr (RD_upr (RD_upr h (by omega)) (by omega)) (by omega)) (by omega)) (by omega)) (by omega)) (by omega))
/-- what the reference does at the name of a parameter -/
noncomputable def pTl (u r : Int) (t : iS) : Option ((Int × iS) ⊕ (iS ⊕ (iS ⊕ iS))) := gd (0 ≤ (t 121 10) ∧ (t 121 10) < 2002) (gd (rg (t 124 (t 121 10).toNat)) (if (t 124 (t 121 10).toNat) = 1 then gd (0 ≤ u ∧ u < 61) (bd (m_room (t 134 u.toNat) 12 (t 121 10) t) (fun _ s12 => bd (m_declare u 2 r (s12 121 10) (s12 134 u.toNat) (s12 134 u.toNat) s12) (fun _ s13 => lt' (up s13 134 u.toNat ((s13 134 u.toNat) + 1)) (fun s14 => bd (m_go s14) (fun _ s15 => bd (m_isSign 44 s15) (fun r16 s16 => gd (rg r16) (if r16 = 0 then some (.inl (r16, s16)) else bd (m_go s16) (fun _ s19 => some (.inl (r16, s19)))))))))) else some (.inr (.inr (.inl t)))))
theorem pm_b {u : Int} (hf : t 121 11 = 0) : m_parameters_21b u 1 t = bd (m_type t) (fun r5 s5 => gd (rg (s5 121 11)) (if (s5 121 11) ≤ 0 then pTl u r5 s5 else some (.inr (.inl s5)))) := by
  unfold m_parameters_21b
  rw [gr (by omega), if_neg (by omega), hf, gr (by omega), if_pos rfl]
  rfl
/-- the reference at the name of a parameter -/
theorem r_parm (h : TKR 0 F n N P s0 t0) (hL : LXT s0 t0 N s t p o w I C) (hX : RXT K U W t) (hK : K ≠ []) (hU : U ≠ []) (hW : W.length ≤ p) :
    (s0 9 p = 3 → nwW 1 K U W < 12 → p + 1 < N ∧ ∃ t1, RXT K U (W ++ [wNew 1 K U W y p]) t1 ∧ FDX t t1 ∧ t1 121 10 = t 121 10 ∧ (s0 9 (p + 1) = 44 → pTl ((U.length : Int) - 1) y t = some (.inl (1, up (up t1 121 10 ((p + 1 : Nat) : Int)) 121 10 ((p + 1 + 1 : Nat) : Int)))) ∧ (s0 9 (p + 1) ≠ 44 → pTl ((U.length : Int) - 1) y t = some (.inl (0, up t1 121 10 ((p + 1 : Nat) : Int))))) ∧
    (s0 9 p ≠ 3 → pTl ((U.length : Int) - 1) y t = some (.inr (.inr (.inl t)))) ∧
    (s0 9 p = 3 → 12 ≤ nwW 1 K U W → ∃ x t1, (x = 0 ∨ x = 1) ∧ pTl ((U.length : Int) - 1) y t = some (.inl (x, t1)) ∧ RD t0 N P t1 2 p 3010 ∧ t1 121 17 = t 121 17) := by
  have hN2 := N1001 h
  have hL' := hL
  obtain ⟨h1, h2, h3, h4, h5, h6, h7, h8, h9, h10, h11, h12, h13, h14, h15, h16⟩ := hL
  have hX' := hX
  obtain ⟨a1, a2, a3, a4, a5, a6, a7, a8, a9, a10, a11, a12, a13⟩ := hX
  have kk := tkK h h5
  obtain ⟨nl, nl2⟩ := nw_le (v := 1) (K := K) (U := U) (W := W)
  have hU1 : 0 < U.length := List.length_pos_iff.mpr hU
  have e124 : t 124 (t 121 10).toNat = t0 124 p := by rw [h4, Int.toNat_natCast, h2.2.1]
  have eu : ((U.length : Int) - 1).toNat = U.length - 1 := by omega
  have e134 : t 134 (U.length - 1) = (nwW 1 K U W : Int) := by
    rw [(a13 (U.length - 1) (by omega)).1, show ((U.length - 1 : Nat) : Int) = (U.length : Int) - 1 by omega]
    rfl
  refine ⟨fun c1 c2 => ?_, fun c1 => ?_, fun c1 c2 => ?_⟩
  · have hp1 : p + 1 < N := tkL h h5 (by omega)
    have room : m_room (nwW 1 K U W : Int) 12 (p : Int) t = some (0, t) := by
      unfold m_room
      rw [gr (by omega), gr (by omega), if_pos (by omega)]
    have D : ∀ v5 v6, m_declare ((U.length : Int) - 1) 2 y (p : Int) v5 v6 t = some (0, dcl t W.length ((U.length : Int) - 1) 2 y (p : Int) v5 v6) := fun v5 v6 => mdcl_ok a7 (by omega)
    have dn : ∀ {v5 v6 : Int} {c k : Nat}, ¬ (c = 121 ∧ k = 25) → ¬ (137 ≤ c ∧ c ≤ 143 ∧ k = W.length) → dcl t W.length ((U.length : Int) - 1) 2 y (p : Int) v5 v6 c k = t c k := fun q1 q2 => dcl_ne q1 q2
    obtain ⟨t1', t2', t3', t4', t5', t6', t7', t8'⟩ := dcl_at (t := t) (w := W.length) (v1 := ((U.length : Int) - 1)) (v2 := 2) (v3 := y) (v4 := (p : Int)) (v5 := (nwW 1 K U W : Int)) (v6 := (nwW 1 K U W : Int))
    have f10 : up (dcl t W.length ((U.length : Int) - 1) 2 y (p : Int) (nwW 1 K U W : Int) (nwW 1 K U W : Int)) 134 (U.length - 1) ((nwW 1 K U W : Int) + 1) 121 10 = (p : Int) := by rw [up_ne (by omega), dn (by omega) (by omega)]; exact h4
    have f11 : up (dcl t W.length ((U.length : Int) - 1) 2 y (p : Int) (nwW 1 K U W : Int) (nwW 1 K U W : Int)) 134 (U.length - 1) ((nwW 1 K U W : Int) + 1) 121 11 = 0 := by rw [up_ne (by omega), dn (by omega) (by omega)]; exact h6
    have fd : FDX t (up (dcl t W.length ((U.length : Int) - 1) 2 y (p : Int) (nwW 1 K U W : Int) (nwW 1 K U W : Int)) 134 (U.length - 1) ((nwW 1 K U W : Int) + 1)) := fun c' k' q1 q2 q3 q4 q5 => by rw [up_ne (by omega), dn (by omega) (by omega)]
    have sr := SR_up (x := ((p + 1 : Nat) : Int)) (c := 121) (k := 10) (FDX_SR fd h2) (by omega)
    have sg := rS h sr (up_same _ _ _ _) hp1 (c := 44) (by omega)
    have base : pTl ((U.length : Int) - 1) y t = bd (m_isSign 44 (up (up (dcl t W.length ((U.length : Int) - 1) 2 y (p : Int) (nwW 1 K U W : Int) (nwW 1 K U W : Int)) 134 (U.length - 1) ((nwW 1 K U W : Int) + 1)) 121 10 ((p + 1 : Nat) : Int))) (fun r16 s16 => gd (rg r16) (if r16 = 0 then some (.inl (r16, s16)) else bd (m_go s16) (fun _ s19 => some (.inl (r16, s19))))) := by
      unfold pTl
      rw [gd_pos (by omega), gr (by omega), if_pos (by omega), gd_pos (by omega), eu, e134, h4, room, bq, h4, e134, D, bq, lt_eq, dn (by omega) (by omega), e134, rGo f11 f10, bq]
    refine ⟨hp1, up (dcl t W.length ((U.length : Int) - 1) 2 y (p : Int) (nwW 1 K U W : Int) (nwW 1 K U W : Int)) 134 (U.length - 1) ((nwW 1 K U W : Int) + 1), RXT_add hX' (Or.inl ⟨rfl, hU⟩) hK (fun c' k' q1 q2 q3 q4 q5 => ?_) ?_ ?_ (fun q => by omega) (fun q => by omega) (fun q => ?_) (fun q => by omega), fd, by rw [f10, h4], fun k => ?_, fun k => ?_⟩
    · rw [up_ne (by omega), dn (by omega) (by omega)]
    · rw [up_ne (by omega)]; exact t8'
    · rw [up_ne (by omega), up_ne (by omega), up_ne (by omega), up_ne (by omega), up_ne (by omega), up_ne (by omega), up_ne (by omega), t1', t2', t3', t4', t5', t6', t7', a1]
      exact ⟨rfl, rfl, rfl, rfl, rfl, rfl, rfl⟩
    · rw [up_same, e134]
    · rw [base, sg, bq, if_pos k, gr (by omega), if_neg (by omega), rGo (by rw [up_ne (by omega)]; exact f11) (up_same _ _ _ _), bq]
    · rw [base, sg, bq, if_neg k, gr (by omega), if_pos rfl]
  · unfold pTl
    rw [gd_pos (by omega), gr (by omega), if_neg (by omega)]
  · have room : m_room (nwW 1 K U W : Int) 12 (p : Int) t = some (0, flt t 2 P p) := by
      unfold m_room
      rw [gr (by omega), gr (by omega), if_neg (by omega), rWr h2 h h6 h5, bq]
    have rd : RD t0 N P (flt t 2 P p) 2 p 3010 := flt_RD h2 h4 h5 h13 (by omega) (by omega)
    have D := mdcl_ok (t := flt t 2 P p) (w := W.length) (v1 := (U.length : Int) - 1) (v2 := 2) (v3 := y) (v4 := (p : Int)) (v5 := (nwW 1 K U W : Int)) (v6 := (nwW 1 K U W : Int)) (by rw [flt_ne (by omega)]; exact a7) (by omega)
    have e134' : flt t 2 P p 134 (U.length - 1) = (nwW 1 K U W : Int) := by rw [flt_ne (by omega)]; exact e134
    have rd2 : RD t0 N P (up (dcl (flt t 2 P p) W.length ((U.length : Int) - 1) 2 y (p : Int) (nwW 1 K U W : Int) (nwW 1 K U W : Int)) 134 (U.length - 1) ((nwW 1 K U W : Int) + 1)) 2 p 3010 := RD_upr (RD_dcl rd) (by omega)
    have hf' : ft 2 p N := ⟨Or.inr rfl, h5⟩
    have go := rGoD (RZ_f hf' rd2)
    obtain ⟨p', hp', hp2'⟩ := rd2.2.1
    have sg := rS h rd2.1 hp2' hp' (c := 44) (by omega)
    have q17 : up (dcl (flt t 2 P p) W.length ((U.length : Int) - 1) 2 y (p : Int) (nwW 1 K U W : Int) (nwW 1 K U W : Int)) 134 (U.length - 1) ((nwW 1 K U W : Int) + 1) 121 17 = t 121 17 := by rw [up_ne (by omega), dcl_ne (by omega) (by omega), flt_ne (by omega)]
    have base : pTl ((U.length : Int) - 1) y t = bd (m_isSign 44 (up (dcl (flt t 2 P p) W.length ((U.length : Int) - 1) 2 y (p : Int) (nwW 1 K U W : Int) (nwW 1 K U W : Int)) 134 (U.length - 1) ((nwW 1 K U W : Int) + 1))) (fun r16 s16 => gd (rg r16) (if r16 = 0 then some (.inl (r16, s16)) else bd (m_go s16) (fun _ s19 => some (.inl (r16, s19))))) := by
      unfold pTl
      rw [gd_pos (by omega), gr (by omega), if_pos (by omega), gd_pos (by omega), eu, e134, h4, room, bq, flt_ne (by omega), h4, e134', D, bq, lt_eq, dcl_ne (by omega) (by omega), e134', go, bq]
    rw [base, sg, bq]
    by_cases k : s0 9 p' = 44
    · rw [if_pos k, gr (by omega), if_neg (by omega), go, bq]
      exact ⟨1, _, Or.inr rfl, rfl, rd2, q17⟩
    · rw [if_neg k, gr (by omega), if_pos rfl]
      exact ⟨0, _, Or.inl rfl, rfl, rd2, q17⟩
end TXh
