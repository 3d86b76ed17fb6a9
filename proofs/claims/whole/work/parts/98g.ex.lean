/-! expressions: the loops of the reference, one term -/
noncomputable def eL (t : iS) : Option iS := lp (L := iS) (E := iS) (fun l => m_expressions_0b l) t
noncomputable def pL (t : iS) : Option iS := lp (L := iS) (E := iS) (fun l => m_behindTerm_0b l) t
theorem exq (t : iS) : m_expressions t = (eL t).bind (fun e => some (0, e)) := by unfold m_expressions eL; rfl
theorem btq (t : iS) : m_behindTerm t = (pL t).bind (fun e => m_behindTerm_58 e) := by unfold m_behindTerm pL; rfl
section EL
variable {t t' : iS} {r : Int}
theorem eL_dead (hf : 0 < t 121 11 ∧ t 121 11 < 100) : eL t = some t := by
  unfold eL
  refine lp_end ?_
  show m_expressions_0b t = _
  unfold m_expressions_0b
  rw [gr (by omega), if_neg (by omega)]
theorem eL_end (hf : t 121 11 = 0) (hl : t 121 51 = 0) : eL t = some t := by
  unfold eL
  refine lp_end ?_
  show m_expressions_0b t = _
  unfold m_expressions_0b
  rw [gr (by omega), if_pos hf, gr (by omega), if_pos (by omega)]
theorem eL_term (hf : t 121 11 = 0) (hl : 0 < t 121 51 ∧ t 121 51 < 100) (hn : t 121 61 = 1) (h : m_term t = some (r, t')) : eL t = eL t' := by
  unfold eL
  refine lp_next ?_
  show m_expressions_0b t = _
  unfold m_expressions_0b
  rw [gr (by omega), if_pos hf, gr (by omega), if_neg (by omega), gr (by omega), if_neg (by omega), h, bq]
theorem eL_bt (hf : t 121 11 = 0) (hl : 0 < t 121 51 ∧ t 121 51 < 100) (hn : t 121 61 = 0) (h : m_behindTerm t = some (r, t')) : eL t = eL t' := by
  unfold eL
  refine lp_next ?_
  show m_expressions_0b t = _
  unfold m_expressions_0b
  rw [gr (by omega), if_pos hf, gr (by omega), if_neg (by omega), gr (by omega), if_pos hn, h, bq]
theorem pL_end {k : Nat} (hl : t 121 51 = ((k + 1 : Nat) : Int)) (hk : k < 64) (hs : 0 ≤ t 157 k ∧ t 157 k < 4) : pL t = some t := by
  unfold pL
  refine lp_end ?_
  show m_behindTerm_0b t = _
  unfold m_behindTerm_0b
  rw [hl, show ((k + 1 : Nat) : Int) - 1 = (k : Int) by omega, gd_pos (by omega), Int.toNat_natCast, gr (by omega), if_neg (by omega)]
end EL
theorem trlE_0 (n : Nat) (a b c : Int) (s : iS) : trlE (n + 1) 0 a b c s = trl_readIndex (trlE n) s := by rw [trlE, if_pos rfl]
theorem trlE_1 (n : Nat) (a b c : Int) (s : iS) : trlE (n + 1) 1 a b c s = trl_readExpression (trlE n) s := by rw [trlE, if_neg (by decide), if_pos rfl]
theorem trlE_2 (n : Nat) (a b c : Int) (s : iS) : trlE (n + 1) 2 a b c s = trl_readTerm (trlE n) s := by rw [trlE, if_neg (by decide), if_neg (by decide), if_pos rfl]
theorem trlE_3 (n : Nat) (a b c : Int) (s : iS) : trlE (n + 1) 3 a b c s = trl_readNameTerm (trlE n) s := by rw [trlE, if_neg (by decide), if_neg (by decide), if_neg (by decide), if_pos rfl]
theorem trlE_4 (n : Nat) (a b c : Int) (s : iS) : trlE (n + 1) 4 a b c s = trl_readCall (trlE n) s := by rw [trlE, if_neg (by decide), if_neg (by decide), if_neg (by decide), if_neg (by decide), if_pos rfl]
theorem trlE_5 (n : Nat) (a b c : Int) (s : iS) : trlE (n + 1) 5 a b c s = trl_readArguments (trlE n) s := by rw [trlE, if_neg (by decide), if_neg (by decide), if_neg (by decide), if_neg (by decide), if_neg (by decide), if_pos rfl]
theorem trlE_6 (n : Nat) (a b c : Int) (s : iS) : trlE (n + 1) 6 a b c s = trl_readSignTerm (trlE n) s := by rw [trlE, if_neg (by decide), if_neg (by decide), if_neg (by decide), if_neg (by decide), if_neg (by decide), if_neg (by decide), if_pos rfl]
section MT
variable {F : Nat → Int} {n N : Nat} {P : Nat → Nat} {s0 t0 t : iS} {p : Nat}
theorem N1001 (h : TKR 0 F n N P s0 t0) : N ≤ 1001 := by
  have := h.2.2.1
  rw [if_pos rfl] at this
  exact this
/-- a token that is one is not the last -/
theorem tkL {ch : Int} (h : TKR ch F n N P s0 t0) (hN : p < N) (hk : 2 < s0 9 p) : p + 1 < N := by
  obtain ⟨_, h2, _, _, _, _, _, _, h9⟩ := h
  by_cases c : p = N - 1
  · rw [c] at hk
    omega
  · omega
theorem mt_0 (h : TKR 0 F n N P s0 t0) (hr : SR t0 t) (hp : t 121 10 = (p : Int)) (hN : p < N) : SR t0 (up t 121 61 0) ∧ up t 121 61 0 121 10 = (p : Int) := ⟨SR_up hr (by omega), by rw [up_ne (by omega), hp]⟩
theorem mt_num (h : TKR 0 F n N P s0 t0) (hr : SR t0 t) (hp : t 121 10 = (p : Int)) (hN : p < N) (hk : s0 9 p = 4) : m_term t = bd (m_add 0 (s0 11 p) 0 (p : Int) (up t 121 61 0)) (fun r44 s44 => bd (m_go s44) (fun _ s45 => some (0, s45))) := by
  obtain ⟨u1, u2⟩ := mt_0 h hr hp hN
  have k := tkK h hN
  have hN2 := N1001 h
  rw [if_pos rfl] at k
  unfold m_term
  rw [lt_eq, u2, gd_pos (by omega), Int.toNat_natCast, u1.2.1, gr (by omega), if_pos (by omega), hp, u1.2.2.2.2.1, (tkV h hN hk).1]
theorem mt_str (h : TKR 0 F n N P s0 t0) (hr : SR t0 t) (hp : t 121 10 = (p : Int)) (hN : p < N) (hk : s0 9 p = 5) {w : Nat} (hw : t 121 49 = (w : Int)) (hw' : w ≤ 300) : m_term t = if (w : Int) + s0 11 p ≤ 300 then m_term_97 (p : Int) (up (up t 121 61 0) 121 49 ((w : Int) + s0 11 p)) else bd (m_wrong 2 (p : Int) (up (up t 121 61 0) 121 49 ((w : Int) + s0 11 p))) (fun _ s43 => m_term_97 (p : Int) s43) := by
  obtain ⟨u1, u2⟩ := mt_0 h hr hp hN
  have k := tkK h hN
  have hN2 := N1001 h
  obtain ⟨v, v1, v2, v3, _⟩ := tkS h hN hk
  rw [if_pos rfl] at k
  unfold m_term
  rw [lt_eq, u2, gd_pos (by omega), Int.toNat_natCast, u1.2.1, gr (by omega), if_neg (by omega), if_pos (by omega), lt_eq, hp, u1.2.2.2.2.1, up_ne (show ¬ (121 = 121 ∧ 49 = 61) by omega), hw, v1, v2, up_same, gr (by omega), up_ne (show ¬ (121 = 121 ∧ 10 = 49) by omega), u2]
/-- the words -/
theorem mt_wd (h : TKR 0 F n N P s0 t0) (hr : SR t0 t) (hp : t 121 10 = (p : Int)) (hN : p < N) (hk : s0 9 p ≠ 4 ∧ s0 9 p ≠ 5) : m_term t = if s0 9 p = 267 then bd (m_add 0 (-1) 0 (p : Int) (up t 121 61 0)) (fun r38 s38 => bd (m_go s38) (fun _ s39 => some (0, s39))) else if s0 9 p = 268 ∨ s0 9 p = 269 then m_term_156 (p : Int) (up t 121 61 0) else if s0 9 p = 270 then bd (m_add 3 0 0 (p : Int) (up t 121 61 0)) (fun r36 s36 => bd (m_go s36) (fun _ s37 => some (0, s37))) else if s0 9 p = 40 then bd (m_openSign 40 (up t 121 61 0)) (fun _ s33 => bd (m_push 1 s33) (fun _ s34 => lt' (up s34 121 61 1) (fun s35 => some (0, s35)))) else if s0 9 p = 45 ∨ s0 9 p = 126 then m_term_243 (up t 121 61 0) else if s0 9 p = 3 then bd (m_go (up t 121 61 0)) (fun _ s31 => bd (m_named (p : Int) s31) (fun _ s32 => some (0, s32))) else bd (m_syntax (up t 121 61 0)) (fun _ s30 => some (0, s30)) := by
  obtain ⟨u1, u2⟩ := mt_0 h hr hp hN
  have k := tkK h hN
  have hN2 := N1001 h
  rw [if_pos rfl, if_pos rfl] at k
  unfold m_term
  rw [lt_eq, u2, gd_pos (by omega), Int.toNat_natCast, u1.2.1, gr (by omega), if_neg (by omega), if_neg (by omega), hp, rW h u1 u2 hN (by omega), bq]
  by_cases c1 : s0 9 p = 267
  · rw [if_pos (by omega), if_pos c1, gr (by omega), if_neg (by omega)]
  rw [if_neg (by omega), if_neg c1, gr (by omega), if_pos rfl, rW h u1 u2 hN (by omega), bq]
  by_cases c2 : s0 9 p = 268
  · rw [if_pos (by omega), if_pos (Or.inl c2), gr (by omega), if_neg (by omega)]
  rw [if_neg (by omega), gr (by omega), if_pos rfl, rW h u1 u2 hN (by omega), bq]
  by_cases c3 : s0 9 p = 269
  · rw [if_pos (by omega), if_pos (Or.inr c3), gr (by omega), if_neg (by omega)]
  rw [if_neg (show ¬ s0 9 p = 13 + 256 by omega), if_neg (show ¬ (s0 9 p = 268 ∨ s0 9 p = 269) by omega), gr (by omega), if_pos rfl, rW h u1 u2 hN (by omega), bq]
  by_cases c4 : s0 9 p = 270
  · rw [if_pos (by omega), if_pos c4, gr (by omega), if_neg (by omega)]
  rw [if_neg (by omega), if_neg c4, gr (by omega), if_pos rfl, rS h u1 u2 hN (by omega), bq]
  by_cases c5 : s0 9 p = 40
  · rw [if_pos c5, if_pos c5, gr (by omega), if_neg (by omega)]
  rw [if_neg c5, if_neg c5, gr (by omega), if_pos rfl, rS h u1 u2 hN (by omega), bq]
  by_cases c6 : s0 9 p = 45
  · rw [if_pos c6, if_pos (Or.inl c6), gr (by omega), if_neg (by omega)]
  rw [if_neg c6, gr (by omega), if_pos rfl, rS h u1 u2 hN (by omega), bq]
  by_cases c7 : s0 9 p = 126
  · rw [if_pos c7, if_pos (Or.inr c7), gr (by omega), if_neg (by omega)]
  rw [if_neg c7, if_neg (show ¬ (s0 9 p = 45 ∨ s0 9 p = 126) by omega), gr (by omega), if_pos rfl, u2, gd_pos (by omega), Int.toNat_natCast, u1.2.1, gr (by omega)]
  by_cases c8 : s0 9 p = 3
  · rw [if_pos (by omega), if_pos c8]
  · rw [if_neg (by omega), if_neg c8]
/-- operators -/
theorem mop (h : TKR 0 F n N P s0 t0) (hr : SR t0 t) (hp : t 121 10 = (p : Int)) (hN : p < N) : m_isOperator t = some (if s0 9 p ∈ sO then 1 else 0, t) := by
  have hm : s0 9 p ∈ sO ↔ (s0 9 p = 43 ∨ s0 9 p = 45 ∨ s0 9 p = 42 ∨ s0 9 p = 47 ∨ s0 9 p = 38 ∨ s0 9 p = 124 ∨ s0 9 p = 60 ∨ s0 9 p = 62 ∨ s0 9 p = 61) := by
    unfold sO
    simp only [List.mem_cons, List.not_mem_nil, or_false]
  unfold m_isOperator
  rw [rS h hr hp hN (by omega), bq]
  by_cases c1 : s0 9 p = 43
  · rw [if_pos c1, gr (by omega), if_neg (by omega), if_pos (hm.mpr (by omega))]
  rw [if_neg c1, gr (by omega), if_pos rfl, rS h hr hp hN (by omega), bq]
  by_cases c2 : s0 9 p = 45
  · rw [if_pos c2, gr (by omega), if_neg (by omega), if_pos (hm.mpr (by omega))]
  rw [if_neg c2, gr (by omega), if_pos rfl, rS h hr hp hN (by omega), bq]
  by_cases c3 : s0 9 p = 42
  · rw [if_pos c3, gr (by omega), if_neg (by omega), if_pos (hm.mpr (by omega))]
  rw [if_neg c3, gr (by omega), if_pos rfl, rS h hr hp hN (by omega), bq]
  by_cases c4 : s0 9 p = 47
  · rw [if_pos c4, gr (by omega), if_neg (by omega), if_pos (hm.mpr (by omega))]
  rw [if_neg c4, gr (by omega), if_pos rfl, rS h hr hp hN (by omega), bq]
  by_cases c5 : s0 9 p = 38
  · rw [if_pos c5, gr (by omega), if_neg (by omega), if_pos (hm.mpr (by omega))]
  rw [if_neg c5, gr (by omega), if_pos rfl, rS h hr hp hN (by omega), bq]
  by_cases c6 : s0 9 p = 124
  · rw [if_pos c6, gr (by omega), if_neg (by omega), if_pos (hm.mpr (by omega))]
  rw [if_neg c6, gr (by omega), if_pos rfl, rS h hr hp hN (by omega), bq]
  by_cases c7 : s0 9 p = 60
  · rw [if_pos c7, gr (by omega), if_neg (by omega), if_pos (hm.mpr (by omega))]
  rw [if_neg c7, gr (by omega), if_pos rfl, rS h hr hp hN (by omega), bq]
  by_cases c8 : s0 9 p = 62
  · rw [if_pos c8, gr (by omega), if_neg (by omega), if_pos (hm.mpr (by omega))]
  rw [if_neg c8, gr (by omega), if_pos rfl, rS h hr hp hN (by omega), bq]
  by_cases c9 : s0 9 p = 61
  · rw [if_pos c9, gr (by omega), if_neg (by omega), if_pos (hm.mpr (by omega))]
  · rw [if_neg c9, gr (by omega), if_pos rfl, if_neg (fun q => by have := hm.mp q; omega)]
theorem ic_400 : ∀ m : Fin 400, i_c ((m.val : Nat) : Int) = ((m.val : Nat) : Int) := by decide +kernel
theorem ic_m1 : i_c (-1) = 65535 := by decide +kernel
theorem sixO {v : Int} {s : iS} (hv : 0 ≤ v ∧ v < 256) : ∃ r, str_indexOf_v2 (i_c v) s = some (r, s) ∧ rg r ∧ (0 ≤ r ↔ v ∈ sO) := by
  obtain ⟨q, rfl⟩ : ∃ q : Nat, v = (q : Int) := ⟨v.toNat, by omega⟩
  have hic := ic_id ⟨q, by omega⟩
  have hsc := sio_O ⟨q, by omega⟩
  simp only at hic hsc
  rw [hic]
  unfold str_indexOf_v2 str_indexOf_49_v2 str_length_v2 sl1_indexOf_v2 sl1_canEncode sl1_indexOfChar_v2 sl1_indexOfChar_v2_7
  rw [bq, show i_shr 9 0 = 9 by decide, gr (by omega), if_neg (by omega), if_neg (by omega), bq, gr (by omega), if_neg (by omega), max_ok (by decide) (by decide), bq, min_ok (by decide) (by decide), bq, if_neg (by decide), if_neg (by decide), gr (by omega), gr (by omega), if_pos (by decide)]
  have hL := lp_scn (f := fun l : Int × iS => sl1_indexOfChar_v2_7b 9 (i_b (q : Int)) (l.1) (l.2)) (P := fun i => (ka_64 i).toInt = i_b (q : Int)) (fun i : Nat => ((i : Int), s)) (fun i : Nat => Sum.inl ((i : Int), s)) (Sum.inr s) 9 (fun i hi => by
    have a := ib_rg (q : Int)
    have b := c_toInt (ka_64 i)
    show sl1_indexOfChar_v2_7b 9 (i_b (q : Int)) (i : Int) s = _
    unfold sl1_indexOfChar_v2_7b
    rw [gr (by omega), gr (by omega), if_neg (by omega), gd_pos (by omega), Int.toNat_natCast, gr (by omega), gd_pos a]
    rfl) (by
    show sl1_indexOfChar_v2_7b 9 (i_b (q : Int)) ((9 : Nat) : Int) s = _
    unfold sl1_indexOfChar_v2_7b
    rw [gr (by omega), gr (by omega), if_pos (by omega)]) 9 0 (by omega)
  rw [show (lp (L := Int × iS) (E := (Int × iS) ⊕ (iS)) (fun l => sl1_indexOfChar_v2_7b 9 (i_b (q : Int)) (l.1) (l.2)) (0, s)) = _ from hL, bn]
  by_cases c : scn (fun i => (ka_64 i).toInt = i_b (q : Int)) 0 9 < 9
  · rw [if_pos c]
    exact ⟨((scn (fun i => (ka_64 i).toInt = i_b (q : Int)) 0 9 : Nat) : Int), rfl, ⟨by omega, by omega⟩, fun _ => hsc.mp c, fun _ => by omega⟩
  · rw [if_neg c]
    exact ⟨-1, rfl, by decide, fun g => by omega, fun g => absurd (hsc.mpr g) c⟩
theorem cop {v : Int} {s : iS} (hv : -1 ≤ v ∧ v < 400) : trl_isOperator v s = some (if v ∈ sO then 1 else 0, s) := by
  unfold trl_isOperator
  by_cases c : 0 ≤ v ∧ v < 256
  · obtain ⟨r, e1, e2, e3⟩ := sixO (s := s) c
    rw [e1, bq, gd_pos e2]
    by_cases c2 : v ∈ sO
    · rw [if_pos c2, if_neg (by have := e3.mpr c2; omega)]
    · rw [if_neg c2, if_pos (by
        rcases Int.lt_or_le r 0 with g | g
        · exact g
        · exact absurd (e3.mp g) c2)]
  · have hno : v ∉ sO := by
      intro q
      unfold sO at q
      simp only [List.mem_cons, List.not_mem_nil, or_false] at q
      omega
    have hi : 255 < i_c v ∧ i_c v ≤ 65535 := by
      by_cases c2 : v = -1
      · rw [c2, ic_m1]; omega
      · obtain ⟨m, rfl⟩ : ∃ m : Nat, v = (m : Int) := ⟨v.toNat, by omega⟩
        have := ic_400 ⟨m, by omega⟩
        simp only at this
        omega
    unfold str_indexOf_v2 str_indexOf_49_v2 str_length_v2 sl1_indexOf_v2 sl1_canEncode
    rw [bq, gr (by omega), if_neg (by omega), if_pos (by omega), bq, gr (by omega), if_pos rfl, bq, bq, bq, gr (by omega), if_pos (by omega), if_neg hno]
end MT
