/-! the subs of a class -/
/-- where the items of a sub begin -/
def stA (A : List (List itm)) (i : Nat) : Nat := ((A.take i).map List.length).sum
/-- the items of all subs; which calls are whose; from which token and byte of strings on each sub is read -/
def AOK (s0 : iS) (K : List Nat) (U : List urec) (W : List wrec) (A : List (List itm)) (t : iS) (I C p w : Nat) : Prop := I = stA A A.length ∧ (∀ r ∈ W, r.2.2.2.2.1 < p) ∧ ((∀ u ∈ U, u.1 < (K.length : Int)) ∧ ∀ i k, i ≤ k → k < U.length → (U.getD i (0, 0, 0, 0)).1 ≤ (U.getD k (0, 0, 0, 0)).1) ∧ ∃ (cs pf wf : Nat → Nat), (∀ i, i < A.length → ∀ r ∈ W, r.2.1 = -1 → r.1 = (U.getD i (0, 0, 0, 0)).1 → r.2.2.2.2.1 < pf i) ∧ cs 0 = 0 ∧ cs A.length = C ∧ pf A.length ≤ p ∧ wf A.length ≤ w ∧ ∀ i, i < A.length → t 136 i = (stA A i : Int) ∧ stA A i + (A.getD i []).length ≤ I ∧ cs i ≤ cs (i + 1) ∧ cs (i + 1) ≤ C ∧ IMs t (stA A i) (i : Int) (cs i) (cs (i + 1)) (A.getD i []) ∧ ∃ l j pb wb pe we lb, A.getD i [] = l ++ [(0, 0, 0, j), (18, 1, 0, j)] ∧ pf i + 4 ≤ pb ∧ wf i ≤ wb ∧ pe + 1 ≤ pf (i + 1) ∧ we ≤ wf (i + 1) ∧ GY s0 t 1 2 (stA A i) pb wb 0 pe we lb l
section TXp
variable {F : Nat → Int} {n N : Nat} {P : Nat → Nat} {s0 t0 : iS} {T : TXP} {TV : Int → Int → Prop} {Z : iS → Prop} {b : Int} {K : List Nat} {A : List (List itm)} {t t' : iS} {I C : Nat}
theorem stA_app {l : List itm} {i : Nat} (hi : i ≤ A.length) : stA (A ++ [l]) i = stA A i := by
  unfold stA
  rw [List.take_append_of_le_length hi]
theorem stA_end {l : List itm} : stA (A ++ [l]) (A ++ [l]).length = stA A A.length + l.length := by
  unfold stA
  rw [List.take_length, List.take_length, List.map_append, List.sum_append]
  simp
/-- the items behind one more sub -/
theorem AOK_add {U : List urec} {W W2 lx : List wrec} {u : urec} {l0 : List itm} {j : Int} {I2 C2 p w p2 w2 pb pe lb : Nat} (h : AOK s0 K U W A t I C p w) (hAU : A.length = U.length) (hu : u.1 = (K.length : Int) - 1) (hW2 : W2 = W ++ lx) (hlx : ∀ e ∈ lx, e.2.2.2.2.1 < p2 ∧ e.2.1 = (U.length : Int)) (hI : I2 = I + (l0 ++ [(0, 0, 0, j), (18, 1, 0, j)] : List itm).length) (hC : C ≤ C2) (hl : IMs t' I (A.length : Int) C C2 (l0 ++ [(0, 0, 0, j), (18, 1, 0, j)])) (h136 : t' 136 A.length = (I : Int)) (h136' : ∀ k, k ≠ A.length → t' 136 k = t 136 k) (hi : ∀ c k, 144 ≤ c → c ≤ 148 → k < I → t' c k = t c k) (hc : ∀ c k, 149 ≤ c → c ≤ 156 → k < C → t' c k = t c k) (hpb : p + 4 ≤ pb) (hpe : p2 = pe + 1) (hg : GY s0 t' 1 2 I pb w 0 pe w2 lb l0) (pp : p ≤ p2) : AOK s0 K (U ++ [u]) W2 (A ++ [l0 ++ [(0, 0, 0, j), (18, 1, 0, j)]]) t' I2 C2 p2 w2 := by
  obtain ⟨h1, w1, ⟨w2', w3'⟩, cs, pf, wf, c0, c1, c2, c3, c4, h2⟩ := h
  refine ⟨by rw [stA_end, ← h1]; exact hI, fun r hr => ?_, ⟨fun r hr => ?_, fun i k hik hk => ?_⟩, fun i => if i ≤ A.length then cs i else C2, fun i => if i < A.length then pf i else if i = A.length then p else p2, fun i => if i ≤ A.length then wf i else w2, fun i hi' r hr q1 q2 => ?_, ?_, ?_, ?_, ?_, fun i hi' => ?_⟩
  · rw [hW2] at hr
    rcases List.mem_append.mp hr with q | q
    · have := w1 r q
      omega
    · exact (hlx r q).1
  · rcases List.mem_append.mp hr with q | q
    · exact w2' r q
    · rw [List.mem_singleton.mp q]; omega
  · rw [List.length_append, List.length_singleton] at hk
    by_cases c : k < U.length
    · rw [gd_app c, gd_app (by omega)]
      exact w3' i k hik c
    · have ek : k = U.length := by omega
      rw [ek, gd_end]
      by_cases c2 : i < U.length
      · rw [gd_app c2]
        have := w2' (U.getD i (0, 0, 0, 0)) (by
          rw [List.getD_eq_getElem?_getD, List.getElem?_eq_getElem c2]
          exact List.getElem_mem _)
        omega
      · rw [show i = U.length by omega, gd_end]
        exact Int.le_refl _
  · rw [List.length_append, List.length_singleton] at hi'
    have hr' : r ∈ W := by
      rw [hW2] at hr
      rcases List.mem_append.mp hr with q | q
      · exact q
      · have := (hlx r q).2
        omega
    show r.2.2.2.2.1 < (if i < A.length then pf i else if i = A.length then p else p2)
    by_cases c : i < A.length
    · rw [gd_app (by omega)] at q2
      rw [if_pos c]
      exact c0 i c r hr' q1 q2
    · rw [if_neg c, if_pos (by omega)]
      exact w1 r hr'
  · show (if 0 ≤ A.length then cs 0 else C2) = 0
    rw [if_pos (Nat.zero_le _)]; exact c1
  · show (if (A ++ [_]).length ≤ A.length then _ else C2) = C2
    rw [if_neg (by rw [List.length_append, List.length_singleton]; omega)]
  · show (if (A ++ [_]).length < A.length then _ else if (A ++ [_]).length = A.length then p else p2) ≤ p2
    rw [if_neg (by rw [List.length_append, List.length_singleton]; omega), if_neg (by rw [List.length_append, List.length_singleton]; omega)]
    exact Nat.le_refl _
  · show (if (A ++ [_]).length ≤ A.length then _ else w2) ≤ w2
    rw [if_neg (by rw [List.length_append, List.length_singleton]; omega)]
    exact Nat.le_refl _
  rw [List.length_append, List.length_singleton] at hi'
  by_cases c : i < A.length
  · obtain ⟨a1, a2, a3, a4, a5, l, j', pb', wb', pe', we', lb', b1, b2, b3, b4, b5, b6⟩ := h2 i c
    simp only [if_pos (show i ≤ A.length by omega), if_pos (show i + 1 ≤ A.length by omega)]
    rw [stA_app (by omega), gd_app c]
    have bl : l.length + 2 = (A.getD i []).length := by rw [b1, List.length_append]; rfl
    exact ⟨by rw [h136' i (by omega)]; exact a1, by omega, a3, by omega, IMs_x a5 (fun c' k z1 z2 z3 z4 => hi c' k z1 z2 (by omega)) (fun c' k z1 z2 z3 z4 => hc c' k z1 z2 (by omega)), l, j', pb', wb', pe', we', lb', b1, by rw [if_pos c]; exact b2, b3, by
      by_cases z : i + 1 < A.length
      · rw [if_pos z]; exact b4
      · have z2 : i + 1 = A.length := by omega
        rw [if_neg z, if_pos z2]
        rw [z2] at b4
        omega, b5, GY_t b6 (fun k z1 z2 => hi 145 k (by omega) (by omega) (by omega))⟩
  · have e : i = A.length := by omega
    rw [e, stA_app (Nat.le_refl _), gd_end, ← h1]
    simp only [if_pos (Nat.le_refl A.length), if_neg (show ¬ A.length + 1 ≤ A.length by omega), if_neg (show ¬ A.length < A.length by omega), if_neg (show ¬ A.length + 1 < A.length by omega), if_neg (show ¬ A.length + 1 = A.length by omega), if_true]
    rw [c2]
    exact ⟨h136, by omega, hC, Nat.le_refl _, hl, l0, j, pb, w, pe, w2, lb, rfl, by omega, by omega, by omega, Nat.le_refl _, hg⟩
theorem AOK_of {U : List urec} {W W' lx : List wrec} {K' : List Nat} {p w p' w' : Nat} (h : AOK s0 K U W A t I C p w) (hAU : A.length = U.length) (hK : K.length ≤ K'.length) (hW : W' = W ++ lx) (hlx : ∀ e ∈ lx, e.2.2.2.2.1 < p' ∧ (K.length : Int) ≤ e.1) (hf : ∀ c k, c = 136 ∨ 144 ≤ c ∧ c ≤ 156 → t' c k = t c k) (hp : p ≤ p') (hw : w ≤ w') : AOK s0 K' U W' A t' I C p' w' := by
  obtain ⟨h1, w1, ⟨w2', w3'⟩, cs, pf, wf, c0, c1, c2, c3, c4, h2⟩ := h
  refine ⟨h1, fun r hr => ?_, ⟨fun u hu => by have := w2' u hu; omega, w3'⟩, cs, pf, wf, fun i hi r hr q1 q2 => ?_, c1, c2, by omega, by omega, fun i hi => ?_⟩
  · rw [hW] at hr
    rcases List.mem_append.mp hr with q | q
    · have := w1 r q
      omega
    · exact (hlx r q).1
  · rw [hW] at hr
    rcases List.mem_append.mp hr with q | q
    · exact c0 i hi r q q1 q2
    · have z1 := (hlx r q).2
      have hm : U.getD i (0, 0, 0, 0) ∈ U := by
        rw [List.getD_eq_getElem?_getD, List.getElem?_eq_getElem (by omega)]
        exact List.getElem_mem _
      have z2 := w2' _ hm
      omega
  obtain ⟨a1, a2, a3, a4, a5, l, j', pb', wb', pe', we', lb', b1, b2, b3, b4, b5, b6⟩ := h2 i hi
  exact ⟨by rw [hf 136 i (by omega)]; exact a1, a2, a3, a4, IMs_x a5 (fun c' k z1 z2 z3 z4 => hf c' k (by omega)) (fun c' k z1 z2 z3 z4 => hf c' k (by omega)), l, j', pb', wb', pe', we', lb', b1, b2, b3, b4, b5, GY_t b6 (fun k z1 z2 => hf 145 k (by omega))⟩
theorem tx_bs {k : Int} {s : iS} (hk : -2147483648 ≤ k ∧ k ≤ 2147483647) : trl_beginsSub k s = some (if k = 257 ∨ k = 258 ∨ k = 259 then 1 else 0, s) := by
  unfold trl_beginsSub
  rw [gr hk]
  by_cases c1 : k = 257
  · rw [if_pos c1, if_pos (by omega)]
  · rw [if_neg c1]
    by_cases c2 : k = 258
    · rw [if_pos c2, if_pos (by omega)]
    · rw [if_neg c2]
      by_cases c3 : k = 259
      · rw [if_pos c3, if_pos (by omega)]
      · rw [if_neg c3, if_neg (by omega)]
theorem m214_b (h : TKR 0 F n N P s0 t0) {p : Nat} (h2 : SR t0 t) (h6 : t 121 11 = 0) (h4 : t 121 10 = (p : Int)) (h5 : p < N) : m_texts_214b t = if s0 9 p = 257 ∨ s0 9 p = 258 ∨ s0 9 p = 259 then bd (m_subr t) (fun _ s1 => some (.inl s1)) else some (.inr t) := by
  have w1 := rW h h2 h4 h5 (w := 1) (by omega)
  have w2 := rW h h2 h4 h5 (w := 2) (by omega)
  have w3 := rW h h2 h4 h5 (w := 3) (by omega)
  unfold m_texts_214b m_texts_245
  rw [gr (by omega), if_pos h6, w1, bq]
  by_cases c1 : s0 9 p = 1 + 256
  · rw [if_pos c1, gr (by omega), if_neg (by omega), if_pos (by omega)]
  · rw [if_neg c1, gr (by omega), if_pos rfl, w2, bq]
    by_cases c2 : s0 9 p = 2 + 256
    · rw [if_pos c2, gr (by omega), if_neg (by omega), if_pos (by omega)]
    · rw [if_neg c2, gr (by omega), if_pos rfl, w3, bq]
      by_cases c3 : s0 9 p = 3 + 256
      · rw [if_pos c3, gr (by omega), if_neg (by omega), if_pos (by omega)]
      · rw [if_neg c3, gr (by omega), if_pos rfl, if_neg (by omega)]
theorem m2_nx {t t' : iS} (h : m_texts_214b t = some (.inl t')) : m_texts_214 t = m_texts_214 t' := by
  unfold m_texts_214
  rw [lp_next (f := fun l : iS => m_texts_214b l) (l := t) h]
theorem m2_en {t t' : iS} (h : m_texts_214b t = some (.inr t')) : m_texts_214 t = m_texts_252 t' := by
  unfold m_texts_214
  rw [lp_end (f := fun l : iS => m_texts_214b l) (l := t) h, bn]
theorem c97_nx {v w x x' : Int} {s s' : iS} (h : trl_readText_97b v w x s = some (.inl (x', s'))) : trl_readText_97 v w x s = trl_readText_97 v w x' s' := by
  unfold trl_readText_97
  rw [lp_next (f := fun l : Int × iS => trl_readText_97b v w (l.1) (l.2)) (l := (x, s)) h]
theorem c97_en {v w x : Int} {s s' : iS} (h : trl_readText_97b v w x s = some (.inr s')) : trl_readText_97 v w x s = trl_readText_127 v w s' := by
  unfold trl_readText_97
  rw [lp_end (f := fun l : Int × iS => trl_readText_97b v w (l.1) (l.2)) (l := (x, s)) h, bn]
/-- a dead pair within the class's loop -/
def DXL (M : Nat) (b : Int) (Z : iS → Prop) (s0 t0 : iS) (N : Nat) (P : Nat → Nat) (x : Int) (t1 : iS) (cl : Option ((Int × iS) ⊕ iS)) : Prop := ∃ f u, ft f u N ∧ RD t0 N P t1 f u M ∧ (b = 0 → ∃ s', cl = some (.inl (x, s')) ∧ CD s0 N s' f u ∧ Z s')
/-- the subs of a class, and the sign behind them -/
theorem x_subs (h : TKR 0 F n N P s0 t0) (hT : RHT T TV Z b s0 N P) (hb01 : b = 0 ∨ b = 1) (hK : K ≠ []) {v1 v2 : Int} : ∀ (d g : Nat) (U : List urec) (W : List wrec) (Y : List Nat) (A : List (List itm)) (s t : iS) (p w I C x : Nat), N - p ≤ d → (g = 0 ∨ g = 3) → LXT s0 t0 N s t p 1 w I C → T g K U W Y A s → RXT K U W t → W.length ≤ p → x + 1 ≤ p → 3 ≤ p → YOK s0 N Y K U W → AOK s0 K U W A t I C p w → A.length = U.length →
    (∃ s2 t2 p2 g2 U2 W2 Y2 A2 w2 I2 C2, trl_readText_97 v1 v2 (x : Int) s = some (.inl (v2 + 1, s2)) ∧ m_texts_214 t = some (.inl t2) ∧ (g2 = 0 ∨ g2 = 3) ∧ LXT s0 t0 N s2 t2 p2 0 w2 I2 C2 ∧ T g2 K U2 W2 Y2 A2 s2 ∧ RXT K U2 W2 t2 ∧ W2.length ≤ p2 ∧ p < p2 ∧ YOK s0 N Y2 K U2 W2 ∧ AOK s0 K U2 W2 A2 t2 I2 C2 p2 w2 ∧ A2.length = U2.length) ∨
    (∃ t2, m_texts_214 t = some (.inl t2) ∧ DXL 3411 b Z s0 t0 N P (v2 + 1) t2 (trl_readText_97 v1 v2 (x : Int) s)) := by
  have hN2 := N1001 h
  intro d
  induction d with
  | zero => intro g U W Y A s t p w I C x hd hg hL; have := hL.2.2.2.2.1; omega
  | succ d ih =>
    intro g U W Y A s t p w I C x hd hg hL hs hX hW hx hp hY hA hAU
    have hL' := hL
    obtain ⟨h1, h2, h3, h4, h5, h6, h7, h8, h9, _⟩ := hL
    have kk := tkK h h5
    have z9 : -2147483648 ≤ s0 9 p ∧ s0 9 p ≤ 2147483647 := by
      rw [if_pos rfl] at kk
      omega
    have mb := m214_b h h2 h6 h4 h5
    have B : trl_readText_97b v1 v2 (x : Int) s = if s0 9 p = 257 ∨ s0 9 p = 258 ∨ s0 9 p = 259 then bd (trl_readSub s) (fun _ s7 => some (.inl (((x : Int) + 1), s7))) else some (.inr s) := by
      unfold trl_readText_97b
      rw [gr (by omega), if_neg (by omega), cK h h1 h3 h5, bq, tx_bs z9, bq]
      by_cases c : s0 9 p = 257 ∨ s0 9 p = 258 ∨ s0 9 p = 259
      · rw [if_pos c, if_pos c, gr (by omega), if_neg (by omega)]
      · rw [if_neg c, if_neg c, gr (by omega), if_pos rfl]
    by_cases k : s0 9 p = 257 ∨ s0 9 p = 258 ∨ s0 9 p = 259
    · rw [if_pos k] at mb B
      obtain ⟨so, hso, hk⟩ : ∃ so : Int, (so = 1 ∨ so = 2 ∨ so = 3) ∧ s0 9 p = 256 + so := ⟨s0 9 p - 256, by omega, by omega⟩
      rcases x_sub h hT hb01 hg hK hso hk hL' hs hX hW hp hY with ⟨y, s2, t2, p2, W2, Y2, l, w2, C2, j, e1, e2, e3, e4, e5, e6, e7, e8, e9, e10, e11, e12, e13, e14⟩ | ⟨q, t2, e1, f, u, d1, d2, d3, d4⟩
      · rw [e1, bq] at B
        rw [e2, bq] at mb
        rw [c97_nx B, m2_nx mb]
        obtain ⟨e7a, pb, pe, lb, e7b, e7c, e7d⟩ := e7
        obtain ⟨e6a, lx, e6b, e6c⟩ := e6
        have A2 : AOK s0 K (U ++ [((K.length : Int) - 1, so, j, y)]) W2 (A ++ [l ++ [(0, 0, 0, (p2 : Int)), (18, 1, 0, (p2 : Int))]]) t2 (I + l.length + 2) C2 p2 w2 := AOK_add hA hAU rfl e6b e6c (by rw [List.length_append]; rfl) e8 (by rw [hAU]; exact e9) (by rw [hAU]; exact e10) (fun k hk => e11 k (by omega)) e12 e13 e7b e7c e7d (by omega)
        rcases ih 3 _ _ _ _ s2 t2 p2 w2 _ C2 (x + 1) (by omega) (Or.inr rfl) e3 e4 e5 e6a (by omega) (by omega) e14 A2 (by rw [List.length_append, List.length_append, hAU]; rfl) with ⟨s3, t3, p3, g3, U3, W3, Y3, A3, w3, I3, C3, f1, f2, f3, f4, f5, f6, f7, f8, f9, f10, f11⟩ | ⟨t3, f1, f2⟩
        · exact Or.inl ⟨s3, t3, p3, g3, U3, W3, Y3, A3, w3, I3, C3, f1, f2, f3, f4, f5, f6, f7, by omega, f9, f10, f11⟩
        · exact Or.inr ⟨t3, f1, f2⟩
      · rw [e1, bq] at mb
        refine Or.inr ⟨_, by rw [m2_nx mb, RZ_214 h d1 d2], f, u, d1, RD_48 (RD_mono d2 (by omega)) (by have := d2.2.2.2.2.2; omega), fun hb => ?_⟩
        obtain ⟨r, s', y1, y2, y3⟩ := d4 hb
        rw [y1, bq] at B
        exact ⟨_, by rw [c97_nx B, cz_97 h d1 y2 (by omega)], CD_upx y2 (by omega), hT.2.2.2.1 _ _ y3 (KS_ZK (KS_up (by omega)))⟩
    · rw [if_neg k] at mb B
      rw [c97_en B, m2_en mb]
      unfold trl_readText_127 m_texts_252 m_closeSign
      rcases x_need h hT hL' hs (c := 125) (by omega) with ⟨b1, b2, b3, b4⟩ | ⟨t2, b1, f, u, d1, d2, d3, d4⟩
      · have L2 := LXT_go hL' b2
        have T2 := (hT.1 _ _ _ _ _ _ _ ((p + 1 : Nat) : Int) hs).1
        rw [b3, bq, b4, bq, lt_eq, lt_eq, bq]
        have e5 : up s 2 12 ((p + 1 : Nat) : Int) 22 5 - 1 = 0 := by rw [up_ne (by omega), h7]; rfl
        have e48 : up t 121 10 ((p + 1 : Nat) : Int) 121 48 - 1 = 0 := by rw [up_ne (by omega), h8]; rfl
        rw [e5, e48]
        refine Or.inl ⟨_, _, p + 1, g, U, W, Y, A, w, I, C, rfl, rfl, hg, ?_, (hT.1 _ _ _ _ _ _ _ _ T2).2, RXT_48 (RXT_10 hX), by omega, by omega, hY, AOK_of hA hAU (Nat.le_refl _) (List.append_nil _).symm (fun e he => by simp at he) (fun c k z => by rw [up_ne (by omega), up_ne (by omega)]) (by omega) (Nat.le_refl _), hAU⟩
        obtain ⟨j1, j2, j3, j4, j5, j6, j7, j8, j9, j10, j11, j12, j13, j14, j15, j16⟩ := L2
        exact ⟨SC_up j1 (by omega), SR_up j2 (by omega), by rw [up_ne (by omega)]; exact j3, by rw [up_ne (by omega)]; exact j4, j5, by rw [up_ne (by omega)]; exact j6, up_same _ _ _ _, up_same _ _ _ _, by omega, by rw [up_ne (by omega)]; exact j10, by rw [up_ne (by omega)]; exact j11, j12, by rw [up_ne (by omega)]; exact j13, by rw [up_ne (by omega)]; exact j14, j15, j16⟩
      · rw [b1, bq, lt_eq, bq]
        refine Or.inr ⟨_, rfl, f, u, d1, RD_48 (RD_mono d2 (by omega)) (by have := d2.2.2.2.2.2; omega), fun hb => ?_⟩
        obtain ⟨r, s', y1, y2, y3⟩ := d4 hb
        rw [y1, bq, lt_eq]
        exact ⟨_, rfl, CD_upx y2 (by omega), hT.2.2.2.1 _ _ y3 (KS_ZK (KS_up (by omega)))⟩
end TXp
