/-! chips: parts -/
section CHg
variable {F : Nat → Int} {n N : Nat} {P : Nat → Nat} {s0 t0 s t s' t' : iS} {p q j : Nat} {C : List chR} {O I J E : List Nat} {Q : List (Nat × Int)} {R L : List (Nat × Nat)} {c0 : chR} {f : Int}
/-- inner names of the chip at hand -/
def JOK (F : Nat → Int) (P : Nat → Nat) (s0 t0 : iS) (N fp : Nat) (Q : List (Nat × Int)) (J : List Nat) : Prop := (∀ x ∈ J, (x < N ∧ s0 9 x = 3) ∧ ∀ k, fp ≤ k → k < Q.length → nmT F P t0 (Q.getD k (0, 0)).1 ≠ nmT F P t0 x) ∧ ∀ i k, i < k → k < J.length → nmT F P t0 (J.getD i 0) ≠ nmT F P t0 (J.getD k 0)
theorem JOK_snoc {fp x : Nat} (h : JOK F P s0 t0 N fp Q J) (h1 : x < N ∧ s0 9 x = 3) (h2 : ∀ k, fp ≤ k → k < Q.length → nmT F P t0 (Q.getD k (0, 0)).1 ≠ nmT F P t0 x) (h3 : ∀ y ∈ J, nmT F P t0 y ≠ nmT F P t0 x) : JOK F P s0 t0 N fp Q (J ++ [x]) := by
  refine ⟨fun y hy => ?_, fun i k h4 h5 => ?_⟩
  · rcases List.mem_append.mp hy with z | z
    · exact h.1 y z
    · rw [List.mem_singleton.mp z]
      exact ⟨h1, h2⟩
  · rw [List.length_append, List.length_singleton] at h5
    rw [gdL (by omega)]
    by_cases c : k < J.length
    · rw [gdL c]
      exact h.2 i k h4 c
    · have : k = J.length := by omega
      subst this
      rw [gd_end]
      exact h3 _ (gd_mem (by omega))
theorem cvL_mono {fp : Nat} {l : Nat × Nat} {js : List Nat} (h : cvL F P s0 t0 fp Q J l) : cvL F P s0 t0 fp Q (J ++ js) l := fun z => by
  rcases h z with y | ⟨x, x1, x2⟩
  · exact Or.inl y
  · exact Or.inr ⟨x, List.mem_append_left _ x1, x2⟩
/-- the links of a part -/
theorem h_links (hH : TKH F n N P s0 t0) (hc : c0.2.1 ≤ Q.length ∧ c0.2.2.2 = I.length) (hQ : ∀ x ∈ Q, x.1 < N ∧ s0 9 x.1 = 3) (hR0 : R.length ≤ 384) : ∀ (k p : Nat) (L : List (Nat × Nat)) (J : List Nat) (s t : iS) (j : Nat), N - p ≤ k → RLv F P s0 t0 N (C ++ [c0]) O Q R L I J p s t → bdL (C ++ [c0]) Q R L J → 4 * L.length + 2 ≤ p → I.length + J.length ≤ L.length → JOK F P s0 t0 N c0.2.1 Q J → 2 * j ≤ p → ∃ s' t', bd (crd_readLink ((C.length + 2 : Nat) : Int) s) (fun _ s1 => crd_readPart_103 ((C.length + 2 : Nat) : Int) (j : Int) s1) = some (0, s') ∧ m_part_100 1 t = some (0, t') ∧ ((∃ ls js p', RLv F P s0 t0 N (C ++ [c0]) O Q R (L ++ ls) I (J ++ js) p' s' t' ∧ p < p' ∧ 4 * (L ++ ls).length ≤ p' ∧ (∀ l ∈ ls, lOK s0 N l ∧ cvL F P s0 t0 c0.2.1 Q (J ++ js) l) ∧ (J ++ js).length ≤ 100 ∧ (L ++ ls).length ≤ 500 ∧ I.length + (J ++ js).length ≤ (L ++ ls).length ∧ JOK F P s0 t0 N c0.2.1 Q (J ++ js) ∧ s' 84 R.length = ((L ++ ls).length : Int) ∧ (∀ c k, c = 84 ∧ k < R.length ∨ c = 78 → s' c k = s c k)) ∨ RDd P s0 t0 N s' t')
  | 0, p, L, J, s, t, j, hk, hl, hb, h4, hI, hJ, hj => by
    have := hl.1.2.2.2.2.1
    omega
  | k + 1, p, L, J, s, t, j, hk, hl, hb, h4, hI, hJ, hj => by
    have h := hH.1
    have hN := N2001 h
    have p2000 := hl.1.2.2.2.2.1
    obtain ⟨s1, t1, g1, g2, g3⟩ := h_link hH hl hb h4 hI hc hQ (fun x hx => (hJ.1 x hx).1)
    have f84 : ∀ c k, c = 84 ∨ c = 78 → s1 c k = s c k := fun c k z => (show md L_crd_readLink G_crd_readLink s s1 from fcrd_readLink _ _ _ g1) c k (by simp [L_crd_readLink]; omega) (by simp [G_crd_readLink]; omega)
    have l11 := hl.1.2.2.2.2.2.2
    have eb : m_part_100b 1 t = bd (m_isSign 44 t1) (fun r6 s6 => gd (rg r6) (if r6 = 0 then some (.inl (r6, s6)) else bd (m_go s6) (fun _ s9 => some (.inl (r6, s9))))) := by
      unfold m_part_100b
      rw [gr (by omega), if_neg (by omega), l11, gr (by omega), if_pos rfl, g2, bq]
    rw [g1, bq]
    rcases g3 with ⟨l, js, p1, b1, b2, b3, b4, b5, b6, b7⟩ | ⟨f, u, y1, y2, y3, y4, y5, y6⟩
    case inr =>
      obtain ⟨s', w1, w2⟩ := dP103 (x := ((C.length + 2 : Nat) : Int)) (y := (j : Int)) h ⟨y3, y4, y1⟩ (by omega)
      have dr : rDd N P t0 f u t1 := ⟨y5, y6, y1⟩
      refine ⟨s', t1, w1, ?_, Or.inr ⟨f, u, y1, y2, w2.1, w2.2.1, y5, y6⟩⟩
      obtain ⟨x1, x2, x3, px, x4, x5⟩ := y5
      rw [rS h x1 x5 x4 (by omega), bq] at eb
      by_cases z : s0 9 px = 44
      · rw [if_pos z, gr (by omega), if_neg (by omega), rGoD (by omega), bq] at eb
        unfold m_part_100
        rw [lp_next (f := fun l : Int × iS => m_part_100b (l.1) (l.2)) (l' := ((1 : Int), t1)) (by
          show m_part_100b 1 t = _
          exact eb)]
        exact e100 (y := 1) h dr (by omega)
      · rw [if_neg z, gr (by omega), if_pos rfl] at eb
        unfold m_part_100
        rw [lp_next (f := fun l : Int × iS => m_part_100b (l.1) (l.2)) (l' := ((0 : Int), t1)) (by
          show m_part_100b 1 t = _
          exact eb)]
        exact e100 (y := 0) h dr (by omega)
    have lL : (L ++ [l]).length = L.length + 1 := by rw [List.length_append]; rfl
    have lJ : (J ++ js).length ≤ J.length + 1 := by
      rw [List.length_append]
      rcases b7 with z | ⟨z, -⟩ <;> rw [z] <;> simp
    obtain ⟨a1, a2, a3, a4, a5, a6, a7⟩ := b1.1
    have l500 : L.length + 1 ≤ 500 := by omega
    have hb1 : bdL (C ++ [c0]) Q R (L ++ [l]) (J ++ js) := ⟨hb.1, hb.2.1, hb.2.2.1, by rw [lL]; exact l500, b5⟩
    have J1 : JOK F P s0 t0 N c0.2.1 Q (J ++ js) := by
      rcases b7 with z | ⟨z, z1, z2, z3⟩
      · rw [z, List.append_nil]; exact hJ
      · rw [z]
        exact JOK_snoc hJ ⟨by have := b4.2.2.2.1; omega, z1⟩ z2 z3
    have sz1 := RLv_sz b1 hb1
    have kp := kRg h a5
    rw [rS h a2 a4 a5 (by omega), bq] at eb
    by_cases z : s0 9 p1 = 44
    · -- one more
      have r1 := nlast h a5 (by omega)
      rw [if_pos z, gr (by omega), if_neg (by omega), rGo a7 a4, bq] at eb
      obtain ⟨s', t', i1, i2, i3⟩ := h_links hH hc hQ hR0 k (p1 + 1) (L ++ [l]) (J ++ js) (up s1 2 12 ((p1 + 1 : Nat) : Int)) (up t1 121 10 ((p1 + 1 : Nat) : Int)) (j + 1) (by omega) (RLv_nx b1 r1) hb1 (by rw [lL]; omega) (by rw [lL]; omega) J1 (by omega)
      obtain ⟨r2, z1, w1, w2⟩ := bd_inv i1
      refine ⟨s', t', ?_, ?_, ?_⟩
      · unfold crd_readPart_103
        rw [lp_next (f := fun l : Int × iS => crd_readPart_103b ((C.length + 2 : Nat) : Int) (l.1) (l.2)) (l' := (((j + 1 : Nat) : Int), z1)) (by
          show crd_readPart_103b ((C.length + 2 : Nat) : Int) (j : Int) s1 = _
          unfold crd_readPart_103b
          rw [gr (by omega), if_neg (by omega), cK h a1 a3 a5, bq, gr (by omega), if_pos z, lt_eq, a3, show (p1 : Int) + 1 = ((p1 + 1 : Nat) : Int) by omega, w1, bq, show (j : Int) + 1 = ((j + 1 : Nat) : Int) by omega])]
        exact w2
      · unfold m_part_100
        rw [lp_next (f := fun l : Int × iS => m_part_100b (l.1) (l.2)) (l' := ((1 : Int), up t1 121 10 ((p1 + 1 : Nat) : Int))) (by
          show m_part_100b 1 t = _
          exact eb)]
        exact i2
      · rcases i3 with ⟨ls, js', p', y1, y2, y3, y4, y5, y6, y7, y8, y9, y10⟩ | y
        · refine Or.inl ⟨l :: ls, js ++ js', p', ?_, by omega, ?_, fun x hx => ?_, ?_, ?_, ?_, ?_, ?_, fun c k z => by rw [y10 c k z, up_ne (by omega), f84 c k (by omega)]⟩
          · rw [List.append_assoc, List.append_assoc] at y1
            exact y1
          · rw [List.append_assoc] at y3
            exact y3
          · rcases List.mem_cons.mp hx with w | w
            · rw [w, ← List.append_assoc]
              exact ⟨b4, cvL_mono b6⟩
            · rw [← List.append_assoc]
              exact y4 x w
          · rw [← List.append_assoc]; exact y5
          · rw [List.append_assoc] at y6; exact y6
          · rw [List.append_assoc] at y7; rw [List.append_assoc] at y7; exact y7
          · rw [← List.append_assoc]; exact y8
          · rw [List.append_assoc] at y9; exact y9
        · exact Or.inr y
    · -- the end
      rw [if_neg z, gr (by omega), if_pos rfl] at eb
      obtain ⟨s2, hs2⟩ : ∃ s2, s2 = up s1 84 R.length ((L ++ [l]).length : Int) := ⟨_, rfl⟩
      have fs2 : ∀ c k, ¬ (c = 84 ∧ k = R.length) → s2 c k = s1 c k := fun c k y => by rw [hs2, up_ne y]
      have rl2 : RLv F P s0 t0 N (C ++ [c0]) O Q R (L ++ [l]) I (J ++ js) p1 s2 t1 := by
        obtain ⟨-, ⟨h2, h3, h4⟩, ⟨h5, h6⟩, ⟨h7, h8⟩, ⟨h9, h10⟩, ⟨h11, h12⟩, h13⟩ := id b1
        exact ⟨LVh_of b1.1 (fun c k y => fs2 c k (by omega)) (fun _ _ _ => rfl), ⟨PcC_of h2 (fun c k y => fs2 c k (by omega)), h3, PcO_of h4 (fun k y => fs2 77 k (by omega))⟩, ⟨PcP_of h5 (fun c k y => fs2 c k (by omega)), h6⟩, ⟨PcR_of h7 (fun c k y => fs2 c k (by omega)), h8⟩, ⟨PcL_of h9 (fun c k y => fs2 c k (by omega)), h10⟩, ⟨PcI_of h11 (fun c k y => fs2 c k (by omega)), h12⟩, STc_of h13 (fun c k y => fs2 c k (by omega))⟩
      have ec : crd_readPart_103 ((C.length + 2 : Nat) : Int) (j : Int) s1 = bd (tok_expect 41 s2) (fun _ s3 => bd (tok_expect 59 s3) (fun _ s4 => some (0, s4))) := by
        have e13 : s1 71 13 = (R.length : Int) := b1.2.2.2.1.1.1
        have e14 : s1 71 14 = ((L ++ [l]).length : Int) := b1.2.2.2.2.1.1.1
        unfold crd_readPart_103
        rw [lp_end (f := fun l : Int × iS => crd_readPart_103b ((C.length + 2 : Nat) : Int) (l.1) (l.2)) (e := s1) (by
          show crd_readPart_103b ((C.length + 2 : Nat) : Int) (j : Int) s1 = _
          unfold crd_readPart_103b
          rw [gr (by omega), if_neg (by omega), cK h a1 a3 a5, bq, gr (by omega), if_neg z])]
        show crd_readPart_146 s1 = _
        unfold crd_readPart_146
        rw [e13, gd_pos (by omega), Int.toNat_natCast, e14, lt_eq, ← hs2]
      have er : m_part_100 1 t = bd (m_needSign 41 t1) (fun _ s3 => bd (m_needSign 59 s3) (fun _ s4 => some (0, s4))) := by
        unfold m_part_100
        rw [lp_next (f := fun l : Int × iS => m_part_100b (l.1) (l.2)) (l' := ((0 : Int), t1)) (by
          show m_part_100b 1 t = _
          exact eb), lp_end (f := fun l : Int × iS => m_part_100b (l.1) (l.2)) (e := t1) (by
          show m_part_100b 0 t1 = _
          unfold m_part_100b
          rw [gr (by omega), if_pos rfl])]
        rfl
      rw [ec, er]
      have sz2 := RLv_sz rl2 hb1
      rcases bSg h rl2.1 (c := 41) (by omega) with ⟨m1, m2, m3, m4⟩ | ⟨f, m1, m2, m3, -⟩
      case inr =>
        have dc : cDd N s0 f p1 (stp s2 f p1 N) := ⟨DCh_st rl2.1.1, SZc_st sz2.1, m1⟩
        have dr : rDd N P t0 f p1 (flt t1 f P p1) := ⟨DRh_fl a2 a4 a5, SZr_fl sz2.2, m1⟩
        rw [m2, bq, dEx h dc (by omega), bq, m3, bq, eSg h dr (by omega), bq]
        exact ⟨_, _, rfl, rfl, Or.inr ⟨f, p1, m1, a5, dc.1, dc.2.1, dr.1, dr.2.1⟩⟩
      have rl3 := RLv_nx rl2 m4.2.2.2.2.1
      have sz3 := RLv_sz rl3 hb1
      rw [m2, bq, m3, bq]
      rcases bSg h rl3.1 (c := 59) (by omega) with ⟨o1, o2, o3, o4⟩ | ⟨f, o1, o2, o3, -⟩
      case inr =>
        rw [o2, bq, o3, bq]
        exact ⟨_, _, rfl, rfl, Or.inr (RDd_st rl3.1 sz3 o1)⟩
      have rl4 := RLv_nx rl3 o4.2.2.2.2.1
      rw [o2, bq, o3, bq]
      refine ⟨_, _, rfl, rfl, Or.inl ⟨[l], js, p1 + 1 + 1, rl4, by omega, by rw [lL]; omega, fun x hx => ?_, b5, by rw [lL]; exact l500, by rw [lL]; omega, J1, ?_, fun c k y => ?_⟩⟩
      · rw [List.mem_singleton.mp hx]
        exact ⟨b4, b6⟩
      · rw [up_ne (by omega), up_ne (by omega), hs2, up_same]
      · rw [up_ne (by omega), up_ne (by omega), fs2 c k (by omega), f84 c k (by omega)]
/-- parts that are read: where their links end -/
def ECH (R : List (Nat × Nat)) (E : List Nat) (L : List (Nat × Nat)) : Prop := E.length = R.length ∧ (∀ r, r + 1 < R.length → (R.getD (r + 1) (0, 0)).2 = E.getD r 0) ∧ (R.length = 0 → L.length = 0) ∧ (R.length ≠ 0 → E.getD (R.length - 1) 0 = L.length)
def PcE (E : List Nat) (s : iS) : Prop := ∀ r, r < E.length → s 84 (r + 1) = (E.getD r 0 : Nat)
/-- a part -/
theorem h_part (hH : TKH F n N P s0 t0) (hc : c0.2.1 ≤ Q.length ∧ c0.2.2.2 = I.length) (hQ : ∀ x ∈ Q, x.1 < N ∧ s0 9 x.1 = 3) (hl : RLv F P s0 t0 N (C ++ [c0]) O Q R L I J p s t) (hb : bdL (C ++ [c0]) Q R L J) (h4 : 4 * L.length ≤ p) (hI : I.length + J.length ≤ L.length) (hJ : JOK F P s0 t0 N c0.2.1 Q J) (hr : c0.2.2.1 ≤ R.length ∧ R.length ≤ c0.2.2.1 + 24) (h384 : c0.2.2.1 + 24 ≤ 384) (hE : ECH R E L) (pE : PcE E s) (hk : s0 9 p = 3) : ∃ s' t', crd_readPart ((C.length + 2 : Nat) : Int) s = some (0, s') ∧ m_part t = some (0, t') ∧ ((∃ ls js p', RLv F P s0 t0 N (C ++ [c0]) O Q (R ++ [(p, L.length)]) (L ++ ls) I (J ++ js) p' s' t' ∧ p + 1 < p' ∧ R.length + 1 ≤ c0.2.2.1 + 24 ∧ 4 * (L ++ ls).length ≤ p' ∧ (∀ l ∈ ls, lOK s0 N l ∧ cvL F P s0 t0 c0.2.1 Q (J ++ js) l) ∧ (J ++ js).length ≤ 100 ∧ (L ++ ls).length ≤ 500 ∧ I.length + (J ++ js).length ≤ (L ++ ls).length ∧ JOK F P s0 t0 N c0.2.1 Q (J ++ js) ∧ ECH (R ++ [(p, L.length)]) (E ++ [(L ++ ls).length]) (L ++ ls) ∧ PcE (E ++ [(L ++ ls).length]) s' ∧ (∀ k, s' 78 k = s 78 k)) ∨ RDd P s0 t0 N s' t') := by
  have h := hH.1
  have hN := N2001 h
  obtain ⟨a1, a2, a3, a4, a5, a6, a7⟩ := hl.1
  have sz := RLv_sz hl hb
  obtain ⟨-, ⟨pc1, pc2, po⟩, ⟨pp1, pp2⟩, ⟨pr1, pr2⟩, ⟨pl1, pl2⟩, ⟨pi1, pi2⟩, pst⟩ := id hl
  have ll : (C ++ [c0]).length = C.length + 1 := by rw [List.length_append]; rfl
  have C16 : C.length + 1 ≤ 16 := by have := hb.1; omega
  have e78 : s 78 (C.length + 2) = (c0.2.2.1 : Int) := by
    have := (pc1.2 C.length (by omega)).2.2
    rw [c_last, Nat.add_comm 2] at this
    exact this
  have e201 : t 201 C.length = (c0.2.2.1 : Int) := by
    have := (pc2.2 C.length (by omega)).2.2.1
    rw [c_last] at this
    exact this
  have e122 : t 121 122 = (C.length : Int) + 1 := by rw [pc2.1, ll]; omega
  have e13 : s 71 13 = (R.length : Int) := pr1.1
  have e131 : t 121 131 = (R.length : Int) := pr2.1
  have e14 : s 71 14 = (L.length : Int) := pl1.1
  have e134 : t 121 134 = (L.length : Int) := pl2.1
  by_cases full : R.length < c0.2.2.1 + 24
  case neg =>
    have f11 : flt t 2 P p 121 11 = 2 := by unfold flt; rw [up_ne (by omega), up_same]
    refine ⟨stp s 2 p N, flt t 2 P p, ?_, ?_, Or.inr (RDd_st hl.1 sz (by omega))⟩
    · unfold crd_readPart crd_readPart_26
      rw [gd_pos (by omega), Int.toNat_natCast, e13, e78, gr (by omega), if_pos (by omega), cSt h a1 a6.1 a3 a5, if_neg (by omega), bq]
    · unfold m_part m_room
      rw [a4, gd_pos (by omega), Int.toNat_natCast, a2.2.1, gr (by have := (kd1 h a5).2.1; omega), if_pos ((kd1 h a5).1.mpr hk), e122, gd_pos (by omega), show ((C.length : Int) + 1 - 1).toNat = C.length by omega, e201, e131, gr (by omega), gr (by omega), if_neg (by omega), rWr a2 h a7 a5, bq, bq, f11, gr (by omega), if_neg (by omega)]
  have hp1 := nlast h a5 (by omega)
  obtain ⟨sa, hsa⟩ : ∃ sa, sa = up (up (up s 83 R.length (p : Int)) 84 R.length (L.length : Int)) 71 13 ((R.length + 1 : Nat) : Int) := ⟨_, rfl⟩
  obtain ⟨ta, hta⟩ : ∃ ta, ta = up (up (up t 202 R.length (p : Int)) 203 R.length (L.length : Int)) 121 131 ((R.length + 1 : Nat) : Int) := ⟨_, rfl⟩
  have fsa : ∀ c k, ¬ ((c = 83 ∨ c = 84) ∧ k = R.length) → ¬ (c = 71 ∧ k = 13) → sa c k = s c k := fun c k z1 z2 => by rw [hsa, up_ne z2, up_ne (by omega), up_ne (by omega)]
  have fta : ∀ c k, ¬ ((c = 202 ∨ c = 203) ∧ k = R.length) → ¬ (c = 121 ∧ k = 131) → ta c k = t c k := fun c k z1 z2 => by rw [hta, up_ne z2, up_ne (by omega), up_ne (by omega)]
  have lR : (R ++ [(p, L.length)]).length = R.length + 1 := by rw [List.length_append]; rfl
  have rla : RLv F P s0 t0 N (C ++ [c0]) O Q (R ++ [(p, L.length)]) L I J p sa ta := by
    refine ⟨LVh_of hl.1 (fun c k z => fsa c k (by omega) (by omega)) (fun c k z => fta c k (by omega) (by omega)), ⟨PcC_of pc1 (fun c k z => fsa c k (by omega) (by omega)), PrC_of pc2 (fun c k z => fta c k (by omega) (by omega)), PcO_of po (fun k z => fsa 77 k (by omega) (by omega))⟩, ⟨PcP_of pp1 (fun c k z => fsa c k (by omega) (by omega)), PrP_of pp2 (fun c k z => fta c k (by omega) (by omega))⟩, ⟨⟨by rw [hsa, up_same, lR], fun i hi => ?_⟩, ⟨by rw [hta, up_same, lR], fun i hi => ?_⟩⟩, ⟨PcL_of pl1 (fun c k z => fsa c k (by omega) (by omega)), PrL_of pl2 (fun c k z => fta c k (by omega) (by omega))⟩, ⟨PcI_of pi1 (fun c k z => fsa c k (by omega) (by omega)), PrI_of pi2 (fun c k z => fta c k (by omega) (by omega))⟩, STc_of pst (fun c k z => fsa c k (by omega) (by omega))⟩
    · rw [lR] at hi
      by_cases c : i < R.length
      · rw [fsa 83 i (by omega) (by omega), fsa 84 i (by omega) (by omega), gdL c]
        exact pr1.2 i c
      · have : i = R.length := by omega
        subst this
        rw [gd_end, hsa]
        exact ⟨by rw [up_ne (by omega), up_ne (by omega), up_same], by rw [up_ne (by omega), up_same]⟩
    · rw [lR] at hi
      by_cases c : i < R.length
      · rw [fta 202 i (by omega) (by omega), fta 203 i (by omega) (by omega), gdL c]
        exact pr2.2 i c
      · have : i = R.length := by omega
        subst this
        rw [gd_end, hta]
        exact ⟨by rw [up_ne (by omega), up_ne (by omega), up_same], by rw [up_ne (by omega), up_same]⟩
  have rlb := RLv_nx rla hp1
  obtain ⟨sb, hsb⟩ : ∃ sb, sb = up sa 2 12 ((p + 1 : Nat) : Int) := ⟨_, rfl⟩
  obtain ⟨tb, htb⟩ : ∃ tb, tb = up ta 121 10 ((p + 1 : Nat) : Int) := ⟨_, rfl⟩
  rw [← hsb, ← htb] at rlb
  have ec : crd_readPart ((C.length + 2 : Nat) : Int) s = bd (tok_expect 40 sb) (fun _ s12 => bd (crd_readLink ((C.length + 2 : Nat) : Int) s12) (fun _ s13 => crd_readPart_103 ((C.length + 2 : Nat) : Int) 0 s13)) := by
    unfold crd_readPart
    rw [gd_pos (by omega), Int.toNat_natCast, e13, e78, gr (by omega), if_neg (by omega), gr (by omega), if_pos (by omega), gd_pos (by omega), Int.toNat_natCast, lt_eq, up_ne (show ¬ (71 = 83 ∧ _) by omega), e13, gd_pos (by omega), Int.toNat_natCast, up_ne (show ¬ (71 = 83 ∧ _) by omega), e14, a3, lt_eq, lt_eq, up_ne (show ¬ (71 = 84 ∧ _) by omega), up_ne (show ¬ (71 = 83 ∧ _) by omega), e13, show (R.length : Int) + 1 = ((R.length + 1 : Nat) : Int) by omega, ← hsa, lt_eq, fsa 2 12 (by omega) (by omega), a3, show (p : Int) + 1 = ((p + 1 : Nat) : Int) by omega, ← hsb]
  have er : m_part t = bd (m_needSign 40 tb) (fun _ s14 => m_part_100 1 s14) := by
    unfold m_part m_room
    rw [a4, gd_pos (by omega), Int.toNat_natCast, a2.2.1, gr (by have := (kd1 h a5).2.1; omega), if_pos ((kd1 h a5).1.mpr hk), e122, gd_pos (by omega), show ((C.length : Int) + 1 - 1).toNat = C.length by omega, e201, e131, gr (by omega), gr (by omega), if_pos (by omega), bq, a7, gr (by omega), if_pos (by omega), e131, gd_pos (by omega), Int.toNat_natCast, a4, lt_eq, up_ne (show ¬ (121 = 202 ∧ _) by omega), e131, gd_pos (by omega), Int.toNat_natCast, up_ne (show ¬ (121 = 202 ∧ _) by omega), e134, lt_eq, lt_eq, up_ne (show ¬ (121 = 203 ∧ _) by omega), up_ne (show ¬ (121 = 202 ∧ _) by omega), e131, show (R.length : Int) + 1 = ((R.length + 1 : Nat) : Int) by omega, ← hta, rGo rla.1.2.2.2.2.2.2 rla.1.2.2.2.1, bq, ← htb]
  have hb1 : bdL (C ++ [c0]) Q (R ++ [(p, L.length)]) L J := ⟨hb.1, hb.2.1, by rw [lR]; omega, hb.2.2.2.1, hb.2.2.2.2⟩
  have szb := RLv_sz rlb hb1
  rw [ec, er]
  rcases bSg h rlb.1 (c := 40) (by omega) with ⟨m1, m2, m3, m4⟩ | ⟨f, m1, m2, m3, -⟩
  case inr =>
    have dc : cDd N s0 f (p + 1) (stp sb f (p + 1) N) := ⟨DCh_st rlb.1.1, SZc_st szb.1, m1⟩
    have dr : rDd N P t0 f (p + 1) (flt tb f P (p + 1)) := ⟨DRh_fl rlb.1.2.1 rlb.1.2.2.2.1 rlb.1.2.2.2.2.1, SZr_fl szb.2, m1⟩
    obtain ⟨s2, x1, x2⟩ := dLink (x := ((C.length + 2 : Nat) : Int)) h dc
    obtain ⟨s3, x3, x4⟩ := dP103 (x := ((C.length + 2 : Nat) : Int)) (y := 0) h x2 (by omega)
    rw [m2, bq, x1, bq, x3, m3, bq, e100 h dr (by omega)]
    exact ⟨_, _, rfl, rfl, Or.inr ⟨f, p + 1, m1, rlb.1.2.2.2.2.1, x4.1, x4.2.1, dr.1, dr.2.1⟩⟩
  have rlc := RLv_nx rlb m4.2.2.2.2.1
  rw [m2, bq, m3, bq]
  obtain ⟨s', t', i1, i2, i3⟩ := h_links (R := R ++ [(p, L.length)]) (O := O) (C := C) hH hc hQ (by rw [lR]; omega) N (p + 1 + 1) L J _ _ 0 (by omega) rlc hb1 (by omega) hI hJ (by omega)
  refine ⟨s', t', i1, i2, ?_⟩
  rcases i3 with ⟨ls, js, p', y1, y2, y3, y4, y5, y6, y7, y8, y9, y10⟩ | y
  case inr => exact Or.inr y
  refine Or.inl ⟨ls, js, p', y1, by omega, by omega, y3, y4, y5, y6, y7, y8, ⟨?_, fun r hr' => ?_, fun z => ?_, fun _ => ?_⟩, fun r hr' => ?_, fun k => ?_⟩
  · rw [List.length_append, lR, hE.1]
    rfl
  · rw [lR] at hr'
    have el := hE.1
    by_cases c : r + 1 < R.length
    · rw [gdL c, gdL (by omega)]
      exact hE.2.1 r c
    · have : r + 1 = R.length := by omega
      rw [this, gd_end, gdL (by omega), show r = R.length - 1 by omega]
      exact (hE.2.2.2 (by omega)).symm
  · rw [lR] at z
    omega
  · rw [lR, Nat.add_sub_cancel, ← hE.1, gd_end]
  · have el := hE.1
    rw [List.length_append, List.length_singleton] at hr'
    by_cases c : r < E.length
    · rw [y10 84 (r + 1) (by rw [lR]; omega), up_ne (by omega), hsb, up_ne (by omega), gdL c]
      by_cases d : r + 1 = R.length
      · rw [d, hsa, up_ne (by omega), up_same, show r = R.length - 1 by omega, hE.2.2.2 (by omega)]
      · rw [fsa 84 _ (by omega) (by omega)]
        exact pE r c
    · have : r = E.length := by omega
      subst this
      rw [gd_end, el, ← lR]
      exact y9
  · rw [y10 78 k (by omega), up_ne (by omega), hsb, up_ne (by omega), fsa 78 k (by omega) (by omega)]
end CHg
