/-! tokens: strings, signs; one token -/
def sL : List Int := [123, 125, 91, 93, 40, 41, 46, 44, 59, 43, 45, 42, 47, 38, 124, 60, 62, 61, 126]
def sH : List Int := [123, 125, 40, 41, 91, 93, 44, 59, 58, 61]
def sO : List Int := [43, 45, 42, 47, 38, 124, 60, 62, 61]
theorem ic_id : ∀ m : Fin 256, i_c ((m.val : Nat) : Int) = ((m.val : Nat) : Int) := by decide +kernel
theorem sio_L : ∀ m : Fin 256, (scn (fun i => (ka_63 i).toInt = i_b ((m.val : Nat) : Int)) 0 19 < 19) ↔ ((m.val : Nat) : Int) ∈ sL := by decide +kernel
theorem sio_H : ∀ m : Fin 256, (scn (fun i => (ka_62 i).toInt = i_b ((m.val : Nat) : Int)) 0 10 < 10) ↔ ((m.val : Nat) : Int) ∈ sH := by decide +kernel
theorem sio_O : ∀ m : Fin 256, (scn (fun i => (ka_64 i).toInt = i_b ((m.val : Nat) : Int)) 0 9 < 9) ↔ ((m.val : Nat) : Int) ∈ sO := by decide +kernel
theorem ib_rg (v : Int) : rg (i_b v) := ⟨Int32.le_toInt _, Int32.toInt_lt _⟩
section TK3
variable {F : Nat → Int} {n k i j m : Nat} {s t : iS} {x : Int}
theorem sixL {v : Int} (hv : 0 ≤ v ∧ v < 256) : ∃ r, str_indexOf (i_c v) s = some (r, s) ∧ rg r ∧ (0 ≤ r ↔ v ∈ sL) := by
  obtain ⟨q, rfl⟩ : ∃ q : Nat, v = (q : Int) := ⟨v.toNat, by omega⟩
  have hic := ic_id ⟨q, by omega⟩
  have hsc := sio_L ⟨q, by omega⟩
  simp only at hic hsc
  rw [hic]
  unfold str_indexOf str_indexOf_49 str_length sl1_indexOf sl1_canEncode sl1_indexOfChar sl1_indexOfChar_7
  rw [bq, show i_shr 19 0 = 19 by decide, gr (by omega), if_neg (by omega), if_neg (by omega), bq, gr (by omega), if_neg (by omega), max_ok (by decide) (by decide), bq, min_ok (by decide) (by decide), bq, if_neg (by decide), if_neg (by decide), gr (by omega), gr (by omega), if_pos (by decide)]
  have hL := lp_scn (f := fun l : Int × iS => sl1_indexOfChar_7b 19 (i_b (q : Int)) (l.1) (l.2)) (P := fun i => (ka_63 i).toInt = i_b (q : Int)) (fun i : Nat => ((i : Int), s)) (fun i : Nat => Sum.inl ((i : Int), s)) (Sum.inr s) 19 (fun i hi => by
    have a := ib_rg (q : Int)
    have b := c_toInt (ka_63 i)
    show sl1_indexOfChar_7b 19 (i_b (q : Int)) (i : Int) s = _
    unfold sl1_indexOfChar_7b
    rw [gr (by omega), gr (by omega), if_neg (by omega), gd_pos (by omega), Int.toNat_natCast, gr (by omega), gd_pos a]
    rfl) (by
    show sl1_indexOfChar_7b 19 (i_b (q : Int)) ((19 : Nat) : Int) s = _
    unfold sl1_indexOfChar_7b
    rw [gr (by omega), gr (by omega), if_pos (by omega)]) 19 0 (by omega)
  rw [show (lp (L := Int × iS) (E := (Int × iS) ⊕ (iS)) (fun l => sl1_indexOfChar_7b 19 (i_b (q : Int)) (l.1) (l.2)) (0, s)) = _ from hL, bn]
  by_cases c : scn (fun i => (ka_63 i).toInt = i_b (q : Int)) 0 19 < 19
  · rw [if_pos c]
    exact ⟨((scn (fun i => (ka_63 i).toInt = i_b (q : Int)) 0 19 : Nat) : Int), rfl, ⟨by omega, by omega⟩, fun _ => hsc.mp c, fun _ => by omega⟩
  · rw [if_neg c]
    exact ⟨-1, rfl, by decide, fun g => by omega, fun g => absurd (hsc.mpr g) c⟩
theorem sixH {v : Int} (hv : 0 ≤ v ∧ v < 256) : ∃ r, str_indexOf_v1 (i_c v) s = some (r, s) ∧ rg r ∧ (0 ≤ r ↔ v ∈ sH) := by
  obtain ⟨q, rfl⟩ : ∃ q : Nat, v = (q : Int) := ⟨v.toNat, by omega⟩
  have hic := ic_id ⟨q, by omega⟩
  have hsc := sio_H ⟨q, by omega⟩
  simp only at hic hsc
  rw [hic]
  unfold str_indexOf_v1 str_indexOf_49_v1 str_length_v1 sl1_indexOf_v1 sl1_canEncode sl1_indexOfChar_v1 sl1_indexOfChar_v1_7
  rw [bq, show i_shr 10 0 = 10 by decide, gr (by omega), if_neg (by omega), if_neg (by omega), bq, gr (by omega), if_neg (by omega), max_ok (by decide) (by decide), bq, min_ok (by decide) (by decide), bq, if_neg (by decide), if_neg (by decide), gr (by omega), gr (by omega), if_pos (by decide)]
  have hL := lp_scn (f := fun l : Int × iS => sl1_indexOfChar_v1_7b 10 (i_b (q : Int)) (l.1) (l.2)) (P := fun i => (ka_62 i).toInt = i_b (q : Int)) (fun i : Nat => ((i : Int), s)) (fun i : Nat => Sum.inl ((i : Int), s)) (Sum.inr s) 10 (fun i hi => by
    have a := ib_rg (q : Int)
    have b := c_toInt (ka_62 i)
    show sl1_indexOfChar_v1_7b 10 (i_b (q : Int)) (i : Int) s = _
    unfold sl1_indexOfChar_v1_7b
    rw [gr (by omega), gr (by omega), if_neg (by omega), gd_pos (by omega), Int.toNat_natCast, gr (by omega), gd_pos a]
    rfl) (by
    show sl1_indexOfChar_v1_7b 10 (i_b (q : Int)) ((10 : Nat) : Int) s = _
    unfold sl1_indexOfChar_v1_7b
    rw [gr (by omega), gr (by omega), if_pos (by omega)]) 10 0 (by omega)
  rw [show (lp (L := Int × iS) (E := (Int × iS) ⊕ (iS)) (fun l => sl1_indexOfChar_v1_7b 10 (i_b (q : Int)) (l.1) (l.2)) (0, s)) = _ from hL, bn]
  by_cases c : scn (fun i => (ka_62 i).toInt = i_b (q : Int)) 0 10 < 10
  · rw [if_pos c]
    exact ⟨((scn (fun i => (ka_62 i).toInt = i_b (q : Int)) 0 10 : Nat) : Int), rfl, ⟨by omega, by omega⟩, fun _ => hsc.mp c, fun _ => by omega⟩
  · rw [if_neg c]
    exact ⟨-1, rfl, by decide, fun g => by omega, fun g => absurd (hsc.mpr g) c⟩
/-! strings -/
abbrev sQ (F : Nat → Int) (j : Nat) : Prop := F j < 32 ∨ 126 < F j ∨ F j = 34
abbrev sE (F : Nat → Int) (n k : Nat) : Nat := scn (fun j => sQ F j) (k + 1) (n - (k + 1))
theorem sE_le (hk : k < n) : k + 1 ≤ sE F n k ∧ sE F n k ≤ n := by
  have := scn_le (P := fun j => sQ F j) (n - (k + 1)) (k + 1)
  unfold sE
  omega
theorem sE_not (h1 : k + 1 ≤ i) (h2 : i < sE F n k) : ¬ sQ F i := scn_not (P := fun j => sQ F j) (n - (k + 1)) (k + 1) i h1 h2
theorem sE_is (hk : k < n) (h : sE F n k < n) : sQ F (sE F n k) := by
  have h' : scn (fun j => sQ F j) (k + 1) (n - (k + 1)) < n := h
  exact scn_is (P := fun j => sQ F j) (n - (k + 1)) (k + 1) (by omega)
theorem trs_ok (h : tkC F n s) (hp : s 2 10 = (k : Int)) (hk : k < n) (hj : j < 2001) : tok_readString (j : Int) s = if cAt F n (sE F n k) = 34 ∧ sE F n k ≤ k + 61 then some (5, up (up s 11 j ((sE F n k : Nat) - (k : Int) - 1)) 2 10 ((sE F n k + 1 : Nat) : Int)) else some (1, up s 11 j ((sE F n k : Nat) - (k : Int) - 1)) := by
  have h2 := h.2.1
  have h9 := h.1
  unfold tok_readString tok_readString_7
  rw [hp, show (k : Int) + 1 = ((k + 1 : Nat) : Int) by omega, lp_sc1 (P := fun j => sQ F j) (fun j : Nat => ((j : Int), s)) (fun j : Nat => ((j : Int), s)) n (fun i hi => by
    have a := h.2.2.2.2 i
    simp only [tok_readString_7b]
    rw [gr (by omega), gr (by omega), if_neg (by omega), tba h (by omega), bq, cAt_lt hi, gr (by omega)]
    by_cases c1 : F i < 32
    · rw [if_pos c1, if_pos (Or.inl c1)]
    · rw [if_neg c1, tba h (by omega), bq, cAt_lt hi, gr (by omega)]
      by_cases c2 : 126 < F i
      · rw [if_pos c2, if_pos (Or.inr (Or.inl c2))]
      · rw [if_neg c2, tba h (by omega), bq, cAt_lt hi, gr (by omega)]
        by_cases c3 : F i = 34
        · rw [if_pos c3, if_pos (Or.inr (Or.inr c3))]
        · rw [if_neg c3, if_neg (fun q => q.elim c1 (fun q => q.elim c2 c3))]
          rfl) (by
    simp only [tok_readString_7b]
    rw [gr (by omega), gr (by omega), if_pos (by omega)]) (k + 1) (by omega), bn]
  have q := sE_le (F := F) hk
  show tok_readString_51 (j : Int) ((sE F n k : Nat) : Int) s = _
  generalize sE F n k = e at *
  have hx : tkC F n (up s 11 j ((e : Int) - (k : Int) - 1)) := tkC_of (up_ne (by omega)) (up_cell (by decide)) h
  have a := cAt_rg (n := n) (i := e) h.2.2.2.2
  unfold tok_readString_51
  rw [gd_pos (by omega), lt_eq, hp, Int.toNat_natCast, tba hx (by omega), bq, gr (by omega), up_same]
  by_cases c1 : cAt F n e = 34
  · rw [if_pos c1, gr (by omega)]
    by_cases c2 : e ≤ k + 61
    · rw [if_pos (by omega), if_pos ⟨c1, c2⟩]
      rfl
    · rw [if_neg (by omega), if_neg (fun q => c2 q.2)]
  · rw [if_neg c1, if_neg (fun q => c1 q.1)]
theorem mls_ok (h : tkR F n t) (hm : t 121 9 = (m : Int)) (hm' : m < 2002) (hk : k < n) : m_languageToken_57 (k : Int) ((k : Int) + 1) t = if cAt F n (sE F n k) = 34 ∧ sE F n k ≤ k + 61 then some (((sE F n k + 1 : Nat) : Int), mtk t m 3 (k : Int) ((sE F n k + 1 : Nat) : Int) ((sE F n k : Nat) - (k : Int) - 1)) else some (-1, t) := by
  have h1 := h.1
  have h2 := h.2.1
  unfold m_languageToken_57
  rw [show (k : Int) + 1 = ((k + 1 : Nat) : Int) by omega, lp_sc1 (P := fun j => sQ F j ∨ k + 61 < j) (fun j : Nat => ((j : Int), t)) (fun j : Nat => ((j : Int), t)) n (fun i hi => by
    have a := h.2.2.2.2 i
    simp only [m_languageToken_57b, Int.toNat_natCast, h.2.2.1 i hi]
    rw [gr (by omega), gr (by omega), if_neg (by omega), gd_pos (by omega), gr (by omega)]
    by_cases c1 : F i = 34
    · rw [if_pos c1, if_pos (by omega)]
    · rw [if_neg c1]
      by_cases c2 : F i < 32
      · rw [if_pos c2, if_pos (by omega)]
      · rw [if_neg c2]
        by_cases c3 : 126 < F i
        · rw [if_pos c3, if_pos (by omega)]
        · rw [if_neg c3, gr (by omega)]
          by_cases c4 : k + 61 < i
          · rw [if_pos (by omega), if_pos (by omega)]
          · rw [if_neg (by omega), if_neg (by omega)]
            rfl) (by
    simp only [m_languageToken_57b]
    rw [gr (by omega), gr (by omega), if_pos (by omega)]) (k + 1) (by omega), bn]
  have q := sE_le (F := F) hk
  have qn := fun i => sE_not (F := F) (n := n) (k := k) (i := i)
  have qi := sE_is (F := F) hk
  show m_languageToken_113 (k : Int) ((scn (fun j => sQ F j ∨ k + 61 < j) (k + 1) (n - (k + 1)) : Nat) : Int) t = _
  generalize sE F n k = e at *
  by_cases c : e ≤ k + 61
  · rw [scn_at (P := fun j => sQ F j ∨ k + 61 < j) (m := e) (by omega) (by omega) (fun i i1 i2 => by have := qn i i1 i2; omega) (fun g => Or.inl (qi (by omega)))]
    have a := cAt_rg (n := n) (i := e) h.2.2.2.2
    unfold m_languageToken_113
    rw [mta h (by omega), bq, gr (by omega)]
    by_cases c1 : cAt F n e = 34
    · rw [if_pos c1, gr (by omega), if_pos (by omega), if_pos ⟨c1, c⟩, mtk_ok hm hm', bq]
      rfl
    · rw [if_neg c1, if_neg (fun q => c1 q.1)]
  · rw [scn_at (P := fun j => sQ F j ∨ k + 61 < j) (m := k + 62) (by omega) (by omega) (fun i i1 i2 => by have := qn i i1 (by omega); omega) (fun g => Or.inr (by omega))]
    have a := cAt_rg (n := n) (i := k + 62) h.2.2.2.2
    unfold m_languageToken_113
    rw [if_neg (fun q : cAt F n e = 34 ∧ e ≤ k + 61 => c q.2), mta h (by omega), bq, gr (by omega)]
    by_cases c1 : cAt F n (k + 62) = 34
    · rw [if_pos c1, gr (by omega), if_neg (by omega)]
    · rw [if_neg c1]
/-! one token -/
theorem trt_L (h : tkC F n s) (hT : KWT s) (hp : s 2 10 = (k : Int)) (hch : s 2 11 = 0) (hj : j < 2001) (g : tkR F n t) (hm : t 121 9 = (m : Int)) (hm' : m < 2002) (hk : k < n) : ∃ kd s' r t', tok_readToken (j : Int) s = some (kd, s') ∧ m_languageToken (k : Int) t = some (r, t') ∧ TRs 0 F n j k m s t kd s' r t' := by
  have h2 := h.2.1
  have a := h.2.2.2.2 k
  have hr : rg (F k) := ⟨by omega, by omega⟩
  have hk3 := g.2.2.1 k hk
  unfold tok_readToken m_languageToken
  rw [hp, tba h (by omega), bq, cAt_lt hk, gr (by omega), if_pos (by omega), gd_pos (by omega), Int.toNat_natCast, hk3]
  by_cases cd : dg (F k)
  · -- a number
    rw [xdy cd, bq, gr (by omega), if_neg (by omega), mln hr (by omega), bq, gr (by omega), if_pos rfl, gr (by omega), if_neg (by omega), mdy cd, bq, gr (by omega), if_neg (by omega)]
    have hle := wE_le (F := F) (n := n) (k := k) (by omega)
    have hgt := wE_gt (F := F) hk (Or.inr (Or.inl cd))
    obtain ⟨q1, q2⟩ := trn_ok h hp hch (Or.inl rfl) hk cd hj
    rw [if_pos rfl] at q1 q2
    rw [show (5 : Int) = ((5 : Nat) : Int) from rfl, mnt_ok (by omega) (by omega) g hm hm' hk cd]
    by_cases c : wE F n k - k ≤ 5 ∧ (∀ i, i < wE F n k - k → dg (F (k + i))) ∧ nv F k (wE F n k - k) ≤ 32767
    · rw [if_pos c, q1 c, bq, bq]
      have nr := nv_rg (f := F) (st := k) (k := wE F n k - k) c.1 c.2.1
      refine ⟨_, _, _, _, rfl, rfl, fun c' q' g1 g2 => ?_, Or.inr ⟨wE F n k, 2, _, hgt, hle.2, rfl, up_same _ _ _ _, rfl, Or.inr (Or.inl ⟨rfl, rfl, ?_, ?_, ?_⟩)⟩⟩
      · rw [up_ne (by omega), up_ne (by omega)]
      · rw [up_ne (by omega), up_same]
      · rw [up_ne (by omega), up_same]; exact nr.1
      · rw [up_ne (by omega), up_same]; exact c.2.2
    · rw [if_neg c]
      obtain ⟨s', e1, e2⟩ := q2 c
      rw [e1, bq, bq]
      exact ⟨_, _, _, _, rfl, rfl, e2, Or.inl ⟨rfl, rfl, rfl⟩⟩
  rw [xdn hr cd, bq, gr (by omega), if_pos rfl]
  by_cases cw : ly (F k) ∨ F k = 95
  · -- a word
    have hw : wb (F k) := by omega
    have hle := wE_le (F := F) (n := n) (k := k) (by omega)
    have hgt := wE_gt (F := F) hk hw
    have eC : (bd (x_isLetter (F k) s) fun r7 s7 => gd (rg r7) (if r7 = 0 then if F k = 95 then gd (rg (s7 2 11)) (if s7 2 11 = 0 then tok_readToken_48 (j : Int) s7 else tok_readToken_54 (j : Int) (F k) s7) else tok_readToken_54 (j : Int) (F k) s7 else tok_readToken_48 (j : Int) s7)) = tok_readToken_48 (j : Int) s := by
      by_cases c1 : ly (F k)
      · rw [xly c1, bq, gr (by omega), if_neg (by omega)]
      · rw [xln hr c1, bq, gr (by omega), if_pos rfl, if_pos (by omega), gr (by omega), if_pos hch]
    rw [eC]
    have eR : ∀ A : iS → Option (Int × iS), (bd (m_isLetter (F k) t) fun r2 s2 => gd (rg r2) (if r2 = 0 then gd (rg (F k)) (if F k = 95 then m_languageToken_20 (k : Int) s2 else A s2) else m_languageToken_20 (k : Int) s2)) = m_languageToken_20 (k : Int) t := by
      intro A
      by_cases c1 : ly (F k)
      · rw [mly c1, bq, gr (by omega), if_neg (by omega)]
      · rw [mln hr c1, bq, gr (by omega), if_pos rfl, gr (by omega), if_pos (by omega)]
    rw [eR]
    unfold tok_readToken_48 m_languageToken_20
    rw [trw_ok h hT hp hch (Or.inl rfl) hk hw hj, mwt_ok tL (by decide) tL_fl tL_ns (by decide) g hm hm' hk hw (Or.inl rfl)]
    simp only [if_pos]
    by_cases c : 16 < wE F n k - k
    · rw [if_pos c, if_pos c, bq, bq]
      exact ⟨_, _, _, _, rfl, rfl, fun _ _ _ _ => rfl, Or.inl ⟨rfl, rfl, rfl⟩⟩
    · rw [if_neg c, if_neg c, bq, bq]
      have r := fw_rg (b := bs F k (wE F n k - k)) tL 0
      have hlen : tL.length = 21 := rfl
      refine ⟨_, _, _, _, rfl, rfl, fun c' q' g1 g2 => ?_, Or.inr ⟨wE F n k, _, _, hgt, hle.2, rfl, up_same _ _ _ _, rfl, ?_⟩⟩
      · rw [up_ne (by omega), up_ne (by omega), up_ne (by omega)]
      · by_cases c2 : fw tL (bs F k (wE F n k - k)) 0 = -1
        · rw [if_pos c2, if_pos c2]
          refine Or.inl ⟨rfl, rfl, wE F n k - k, by omega, by omega, by omega, by omega, fun i hi => wE_in (F := F) (n := n) (k := k) (by omega) (by omega), ?_, ?_⟩
          · rw [up_ne (by omega), up_ne (by omega), up_same]
          · rw [up_ne (by omega), up_same]
        · rw [if_neg c2, if_neg c2]
          exact Or.inr (Or.inr (Or.inr (Or.inr ⟨rfl, by rw [if_pos rfl], by omega, by rw [if_pos rfl]; omega⟩)))
  rw [xln hr (by omega), bq, gr (by omega), if_pos rfl, if_neg (by omega), mln hr (by omega), bq, gr (by omega), if_pos rfl, gr (by omega), if_neg (by omega), mdn hr cd, bq, gr (by omega), if_pos rfl]
  unfold tok_readToken_54
  rw [gr (by omega)]
  by_cases c34 : F k = 34
  · -- a string
    rw [if_pos c34, if_pos c34, gr (by omega), if_pos hch, trs_ok h hp hk hj, mls_ok g hm hm' hk]
    have q := sE_le (F := F) hk
    by_cases c : cAt F n (sE F n k) = 34 ∧ sE F n k ≤ k + 61
    · rw [if_pos c, if_pos c, bq]
      have ce : sE F n k < n := by
        by_cases z : sE F n k < n
        · exact z
        · have := c.1
          rw [cAt_ge (by omega)] at this; omega
      refine ⟨_, _, _, _, rfl, rfl, fun c' q' g1 g2 => ?_, Or.inr ⟨sE F n k + 1, 3, _, by omega, by omega, rfl, up_same _ _ _ _, rfl, Or.inr (Or.inr (Or.inl ⟨rfl, rfl, sE F n k - k - 1, by omega, ?_, by omega, by omega, by omega, fun i hi => ?_⟩))⟩⟩
      · rw [up_ne (by omega), up_ne (by omega)]
      · rw [up_ne (by omega), up_same]; omega
      · have := sE_not (F := F) (n := n) (k := k) (i := k + 1 + i) (by omega) (by omega)
        omega
    · rw [if_neg c, if_neg c, bq]
      refine ⟨_, _, _, _, rfl, rfl, fun c' q' g1 g2 => ?_, Or.inl ⟨rfl, rfl, rfl⟩⟩
      rw [up_ne (by omega)]
  -- a sign
  rw [if_neg c34, if_neg c34]
  unfold tok_readToken_73 tok_readSign tok_readSign_41 tok_readSign_55
  rw [gr (by omega), if_pos hch, gr (by omega), if_pos hch]
  obtain ⟨r, e1, e2, e3⟩ := sixL (s := s) (v := F k) a
  rw [e1, bq, gd_pos e2]
  by_cases c : F k ∈ sL
  · rw [if_pos (e3.mpr c), lt_eq, bq]
    have hm3 : 33 ≤ F k ∧ F k ≤ 126 := by
      unfold sL at c
      simp only [List.mem_cons, List.not_mem_nil, or_false] at c
      omega
    refine ⟨F k, up s 2 10 (s 2 10 + 1), ((k + 1 : Nat) : Int), mtk t m 4 (k : Int) ((k + 1 : Nat) : Int) (F k), rfl, ?_, fun c' q' g1 g2 => up_ne g1, Or.inr ⟨k + 1, 4, F k, by omega, by omega, rfl, by rw [up_same, hp]; rfl, rfl, Or.inr (Or.inr (Or.inr (Or.inl ⟨rfl, rfl, hm3.1, hm3.2⟩)))⟩⟩
    unfold sL at c
    simp only [List.mem_cons, List.not_mem_nil, or_false] at c
    rcases c with c | c | c | c | c | c | c | c | c | c | c | c | c | c | c | c | c | c | c <;> simp (disch := omega) only [↓if_neg, ↓if_pos, mtk_ok hm hm', bq] <;> rfl
  · rw [if_neg (fun q => c (e3.mp q)), bq]
    refine ⟨1, s, -1, t, rfl, ?_, fun _ _ _ _ => rfl, Or.inl ⟨rfl, rfl, rfl⟩⟩
    unfold sL at c
    simp only [List.mem_cons, List.not_mem_nil, or_false] at c
    simp (disch := omega) only [↓if_neg]
end TK3
