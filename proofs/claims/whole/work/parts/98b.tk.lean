/-! tokens: words, numbers, strings, signs -/
theorem tL_gw : ∀ w ∈ tL, gw w := by
  have : ∀ w ∈ tL, w.length ≤ 16 ∧ 0 < w.length ∧ ∀ x ∈ w, (0 : Int) < x ∧ x < 256 := by decide
  exact this
theorem tH_gw : ∀ w ∈ tH, gw w := by
  have : ∀ w ∈ tH, w.length ≤ 16 ∧ 0 < w.length ∧ ∀ x ∈ w, (0 : Int) < x ∧ x < 256 := by decide
  exact this
theorem tL_ns : ∀ w ∈ tL, ∀ x ∈ w, x ≠ 32 := by decide
theorem tH_ns : ∀ w ∈ tH, ∀ x ∈ w, x ≠ 32 := by decide
theorem tL_fl : bs (fun k => (ka_7 k).toInt) 0 122 = fl tL := by decide +kernel
theorem tH_fl : bs (fun k => (ka_6 k).toInt) 0 29 = fl tH := by decide +kernel
section TK2
variable {F : Nat → Int} {n k i j m : Nat} {s t : iS} {x : Int}
/-- the look-up of a word -/
theorem findW_ok {c a b N : Nat} {tab : List (List Int)} (ht : TB c a b tab s) (hg : ∀ w ∈ tab, gw w) (hN : N < 1000000) (hm : tab.length ≤ N) {w : List Int} (hw : gw w) : nam_find c a b N (wH w) (wL w) 0 (s c 2) s = some (fw tab w 0, s) := by
  have hl := wH_lr hw.2.2
  rw [ht.1, show (0 : Int) = ((0 : Nat) : Int) from rfl, find_ok hl.1 hl.2 hN ht.1 hm (by omega) (by omega) (fun i hi => by
    rw [(ht.2 i hi).1, (ht.2 i hi).2]
    have hj2 : tab.getD i [] = tab[i] := by rw [List.getD_eq_getElem?_getD, List.getElem?_eq_getElem hi]; rfl
    rw [hj2]
    exact wH_lr (hg _ (List.getElem_mem hi)).2.2), show min tab.length tab.length - 0 = tab.length by omega]
  rw [fst_fw (b := w) tab 0 (fun j hj => by
    obtain ⟨q1, q2⟩ := ht.2 j hj
    have hj2 : tab.getD j [] = tab[j] := by rw [List.getD_eq_getElem?_getD, List.getElem?_eq_getElem hj]; rfl
    rw [Nat.zero_add, q1, q2]
    have := nm_list (b := w) (w := tab.getD j []) hw (by rw [hj2]; exact hg _ (List.getElem_mem hj))
    rw [← this]
    exact ⟨fun q => ⟨q.1.symm, q.2.symm⟩, fun q => ⟨q.1.symm, q.2.symm⟩⟩)]
/-- where a word ends -/
abbrev wE (F : Nat → Int) (n k : Nat) : Nat := scn (fun j => ¬ wb (F j)) k (n - k)
theorem wE_le (hk : k ≤ n) : k ≤ wE F n k ∧ wE F n k ≤ n := by
  have := scn_le (P := fun j => ¬ wb (F j)) (n - k) k
  unfold wE
  omega
theorem wE_in (h1 : k ≤ j) (h2 : j < wE F n k) : wb (F j) := Decidable.not_not.mp (scn_not (P := fun j => ¬ wb (F j)) (n - k) k j h1 h2)
theorem wE_at (hk : k ≤ n) (h : wE F n k < n) : ¬ wb (F (wE F n k)) := by
  have h' : scn (fun j => ¬ wb (F j)) k (n - k) < n := h
  exact scn_is (P := fun j => ¬ wb (F j)) (n - k) k (by omega)
theorem wE_gt (hk : k < n) (h : wb (F k)) : k < wE F n k := by
  have a := wE_le (F := F) (n := n) (k := k) (by omega)
  rcases Nat.lt_or_ge k (wE F n k) with g | g
  · exact g
  · have e : wE F n k = k := by omega
    have := wE_at (F := F) (n := n) (k := k) (by omega) (by omega)
    rw [e] at this
    exact absurd h this
theorem twe (h : tkC F n s) (hp : s 2 10 = (k : Int)) (hk : k ≤ n) : tok_wordEnd s = some (((wE F n k : Nat) : Int), s) := by
  have h2 := h.2.1
  have h9 := h.1
  unfold tok_wordEnd tok_wordEnd_5
  rw [hp, lp_sc1 (P := fun j => ¬ wb (F j)) (fun j : Nat => ((j : Int), s)) (fun j : Nat => ((j : Int), s)) n (fun j hj => by
    have a := h.2.2.2.2 j
    simp only [tok_wordEnd_5b]
    rw [gr (by omega), gr (by omega), if_neg (by omega), tba h (by omega), bq, cAt_lt hj]
    by_cases c1 : ly (F j)
    · rw [xly c1, bq, gr (by omega), if_neg (by omega), if_neg (fun q => q (Or.inl c1))]
      rfl
    · rw [xln ⟨by omega, by omega⟩ c1, bq, gr (by omega), if_pos rfl, tba h (by omega), bq, cAt_lt hj]
      by_cases c2 : dg (F j)
      · rw [xdy c2, bq, gr (by omega), if_neg (by omega), if_neg (fun q => q (Or.inr (Or.inl c2)))]
        rfl
      · rw [xdn ⟨by omega, by omega⟩ c2, bq, gr (by omega), if_pos rfl, tba h (by omega), bq, cAt_lt hj, gr (by omega)]
        by_cases c3 : F j = 95
        · rw [if_pos c3, if_neg (fun q => q (Or.inr (Or.inr c3)))]
          rfl
        · rw [if_neg c3, if_pos (fun q => q.elim c1 (fun q => q.elim c2 c3))]) (by
    simp only [tok_wordEnd_5b]
    rw [gr (by omega), gr (by omega), if_pos (by omega)]) k hk, bn]
theorem mwby {v : Int} (h : wb v) : m_isWordByte v t = some (1, t) := by
  have hv : rg v := ⟨by omega, by omega⟩
  unfold m_isWordByte
  by_cases c1 : ly v
  · rw [mly c1, bq, gr (by omega), if_neg (by omega)]
  · rw [mln hv c1, bq, gr (by omega), if_pos rfl]
    by_cases c2 : dg v
    · rw [mdy c2, bq, gr (by omega), if_neg (by omega)]
    · rw [mdn hv c2, bq, gr (by omega), if_pos rfl, gd_pos hv, if_pos (by omega)]
theorem mwbn {v : Int} (hv : rg v) (h : ¬ wb v) : m_isWordByte v t = some (0, t) := by
  unfold m_isWordByte
  rw [mln hv (fun q => h (Or.inl q)), bq, gr (by omega), if_pos rfl, mdn hv (fun q => h (Or.inr (Or.inl q))), bq, gr (by omega), if_pos rfl, gd_pos hv, if_neg (fun q => h (Or.inr (Or.inr q)))]
/-- a token is put down -/
def mtk (t : iS) (m : Nat) (a b c d : Int) : iS := up (up (up (up (up t 124 m a) 125 m b) 126 m (c - b)) 127 m d) 121 9 ((m + 1 : Nat) : Int)
theorem mtk_ok {a b c d : Int} (h : t 121 9 = (m : Int)) (hm : m < 2002) : m_token a b c d t = some (0, mtk t m a b c d) := by
  unfold m_token mtk
  simp only [lt_eq]
  have e1 : up t 124 (t 121 9).toNat a 121 9 = (m : Int) := by rw [up_ne (by omega), h]
  rw [gd_pos (by omega)]
  rw [h, Int.toNat_natCast] at *
  rw [e1, Int.toNat_natCast, gd_pos (by omega)]
  have e2 : up (up t 124 m a) 125 m b 121 9 = (m : Int) := by rw [up_ne (by omega), e1]
  rw [e2, Int.toNat_natCast, gd_pos (by omega)]
  have e3 : up (up (up t 124 m a) 125 m b) 126 m (c - b) 121 9 = (m : Int) := by rw [up_ne (by omega), e2]
  rw [e3, Int.toNat_natCast, gd_pos (by omega)]
  have e4 : up (up (up (up t 124 m a) 125 m b) 126 m (c - b)) 127 m d 121 9 = (m : Int) := by rw [up_ne (by omega), e3]
  rw [e4]
  rfl
/-- a good token: class and reference -/
def TG (ch : Int) (F : Nat → Int) (n a : Nat) (k9 k11 k12 k13 r124 r126 r127 : Int) : Prop :=
  (r124 = 1 ∧ k9 = 3 ∧ ∃ z : Nat, r126 = (z : Int) ∧ 1 ≤ z ∧ z ≤ 16 ∧ a + z ≤ n ∧ (∀ i, i < z → wb (F (a + i))) ∧ k12 = wH (bs F a z) ∧ k13 = wL (bs F a z)) ∨
  (r124 = 2 ∧ k9 = 4 ∧ r127 = k11 ∧ 0 ≤ k11 ∧ k11 ≤ 32767) ∨
  (r124 = 3 ∧ k9 = 5 ∧ ∃ v : Nat, r127 = (v : Int) ∧ k11 = (v : Int) ∧ v ≤ 60 ∧ r126 = (v : Int) + 2 ∧ a + v + 2 ≤ n ∧ ∀ i, i < v → 32 ≤ F (a + 1 + i) ∧ F (a + 1 + i) ≤ 126) ∨
  (r124 = 4 ∧ k9 = r127 ∧ 33 ≤ r127 ∧ r127 ≤ 126) ∨
  (r124 = 5 ∧ k9 = r127 + (if ch = 0 then 256 else 300) ∧ 0 ≤ r127 ∧ r127 < (if ch = 0 then 21 else 6))
/-- what the reading of one token gives, class and reference -/
def TRs (ch : Int) (F : Nat → Int) (n j k m : Nat) (s t : iS) (kd : Int) (s' : iS) (r : Int) (t' : iS) : Prop :=
  (∀ c q, ¬ (c = 2 ∧ q = 10) → ¬ (q = j ∧ (c = 11 ∨ c = 12 ∨ c = 13)) → s' c q = s c q) ∧
  (kd = 1 ∧ r = -1 ∧ t' = t ∨ ∃ (e : Nat) (a d : Int), k < e ∧ e ≤ n ∧ r = (e : Int) ∧ s' 2 10 = (e : Int) ∧ t' = mtk t m a (k : Int) (e : Int) d ∧ TG ch F n k kd (s' 11 j) (s' 12 j) (s' 13 j) a ((e : Int) - (k : Int)) d)
/-- the tables of keywords -/
def KWT (s : iS) : Prop := TB 3 4 5 tL s ∧ TB 6 7 8 tH s
theorem TBo {c a b : Nat} {tab : List (List Int)} {s s' : iS} (h0 : s' c 2 = s c 2) (h1 : s' a = s a) (h2 : s' b = s b) (h : TB c a b tab s) : TB c a b tab s' := by
  unfold TB at h ⊢
  rw [h0, h1, h2]
  exact h
theorem wbw {z : Nat} (h1 : 1 ≤ z) (h2 : z ≤ 16) (h : ∀ i, i < z → wb (F (k + i))) : gw (bs F k z) := by
  refine ⟨by rw [bs_len]; exact h2, by rw [bs_len]; omega, fun x hx => ?_⟩
  obtain ⟨i, hi, rfl⟩ := bs_mem hx
  have := h i hi
  omega
theorem trw_ok {ch : Int} (h : tkC F n s) (hT : KWT s) (hp : s 2 10 = (k : Int)) (hch : s 2 11 = ch) (h01 : b01 ch) (hk : k < n) (hw : wb (F k)) (hj : j < 2001) : tok_readWord (j : Int) s = if 16 < wE F n k - k then some (1, s) else some (if fw (if ch = 0 then tL else tH) (bs F k (wE F n k - k)) 0 = -1 then 3 else fw (if ch = 0 then tL else tH) (bs F k (wE F n k - k)) 0 + (if ch = 0 then 256 else 300), up (up (up s 12 j (wH (bs F k (wE F n k - k)))) 13 j (wL (bs F k (wE F n k - k)))) 2 10 ((wE F n k : Nat) : Int)) := by
  have hl := wE_le (F := F) (n := n) (k := k) (by omega)
  have hg := wE_gt hk hw
  have h2 := h.2.1
  have hb := h.2.2.2.1
  have hE := twe h hp (by omega)
  have hI : ∀ i, i < wE F n k - k → wb (F (k + i)) := fun i hi => wE_in (F := F) (n := n) (k := k) (by omega) (by omega)
  generalize wE F n k = e at *
  obtain ⟨z, rfl⟩ : ∃ z, e = k + z := ⟨e - k, by omega⟩
  rw [show k + z - k = z by omega] at *
  have hag : bs (s 1) k z = bs F k z := bs_ext (fun i hi => h.2.2.1 (k + i) (by omega))
  unfold tok_readWord
  rw [hE, bq, hp, gr (by omega)]
  by_cases c : 16 < z
  · rw [if_neg (by omega), if_pos c]
  rw [if_pos (by omega), if_neg c, half43_ok (by omega) (by omega) hb, bq, gd_pos (by omega), nh_wH, hag]
  have hW := wbw (by omega) (by omega) hI
  simp only [lt_eq, Int.toNat_natCast]
  have e1 : up s 12 j (wH (bs F k z)) 2 10 = (k : Int) := by rw [up_ne (by omega), hp]
  have e2 : up s 12 j (wH (bs F k z)) 1 = s 1 := up_cell (by decide)
  rw [e1, show (k : Int) + 8 = ((k + 8 : Nat) : Int) by omega, half43_ok (by omega) (by omega) (by rw [e2]; exact hb), bq, nh_wL, e2, hag]
  have t11 : up (up (up s 12 j (wH (bs F k z))) 13 j (wL (bs F k z))) 2 10 ((k + z : Nat) : Int) 2 11 = ch := by
    rw [up_ne (by omega), up_ne (by omega), up_ne (by omega), hch]
  have t12 : up (up (up s 12 j (wH (bs F k z))) 13 j (wL (bs F k z))) 2 10 ((k + z : Nat) : Int) 12 j = wH (bs F k z) := by
    rw [up_ne (by omega), up_ne (by omega), up_same]
  have t13 : up (up (up s 12 j (wH (bs F k z))) 13 j (wL (bs F k z))) 2 10 ((k + z : Nat) : Int) 13 j = wL (bs F k z) := by
    rw [up_ne (by omega), up_same]
  have tL' : TB 3 4 5 tL (up (up (up s 12 j (wH (bs F k z))) 13 j (wL (bs F k z))) 2 10 ((k + z : Nat) : Int)) := TBo (by rw [up_ne (by omega), up_ne (by omega), up_ne (by omega)]) (by rw [up_cell (by decide), up_cell (by decide), up_cell (by decide)]) (by rw [up_cell (by decide), up_cell (by decide), up_cell (by decide)]) hT.1
  have tH' : TB 6 7 8 tH (up (up (up s 12 j (wH (bs F k z))) 13 j (wL (bs F k z))) 2 10 ((k + z : Nat) : Int)) := TBo (by rw [up_ne (by omega), up_ne (by omega), up_ne (by omega)]) (by rw [up_cell (by decide), up_cell (by decide), up_cell (by decide)]) (by rw [up_cell (by decide), up_cell (by decide), up_cell (by decide)]) hT.2
  generalize up (up (up s 12 j (wH (bs F k z))) 13 j (wL (bs F k z))) 2 10 ((k + z : Nat) : Int) = u at *
  rw [t11, gr (by omega)]
  rcases h01 with h0 | h0
  · have r := fw_rg (b := bs F k z) tL 0
    have hlen : tL.length = 21 := rfl
    rw [if_pos h0, if_pos h0, if_pos h0]
    unfold tok_readWord_80
    rw [gd_pos (by omega), Int.toNat_natCast, t12, t13, findW_ok tL' tL_gw (by decide) (by decide) hW, bq, gr (by omega)]
    by_cases c2 : fw tL (bs F k z) 0 = -1
    · rw [if_pos c2, if_pos c2]
    · rw [if_neg c2, if_neg c2, t11, gr (by omega), if_pos h0]
  · have r := fw_rg (b := bs F k z) tH 0
    have hlen : tH.length = 6 := rfl
    have h1 : ¬ ch = 0 := by omega
    rw [if_neg h1, if_neg h1, if_neg h1]
    unfold tok_readWord_80v1
    rw [gd_pos (by omega), Int.toNat_natCast, t12, t13, findW_ok tH' tH_gw (by decide) (by decide) hW, bq, gr (by omega)]
    by_cases c2 : fw tH (bs F k z) 0 = -1
    · rw [if_pos c2, if_pos c2]
    · rw [if_neg c2, if_neg c2, t11, gr (by omega), if_neg h1]
theorem mwt_ok {N : Nat} {g : Nat → Int32} {low : Int} (tab : List (List Int)) (hN : N < 1000000) (hl : bs (fun k => (g k).toInt) 0 N = fl tab) (hns : ∀ w ∈ tab, ∀ x ∈ w, x ≠ 32) (htl : tab.length ≤ 100) (h : tkR F n t) (hm : t 121 9 = (m : Int)) (hm' : m < 2002) (hk : k < n) (hw : wb (F k)) (hlow : low = 0 ∨ low = 1 ∧ F k ≠ 95) : m_wordToken N g (k : Int) low t = if 16 < wE F n k - k then some (-1, t) else some (((wE F n k : Nat) : Int), mtk t m (if fw tab (bs F k (wE F n k - k)) 0 = -1 then 1 else 5) (k : Int) ((wE F n k : Nat) : Int) (fw tab (bs F k (wE F n k - k)) 0)) := by
  have hle := wE_le (F := F) (n := n) (k := k) (by omega)
  have hg := wE_gt hk hw
  have h2 := h.2.1
  have hb := h.2.2.2.1
  have hI : ∀ i, i < wE F n k - k → wb (F (k + i)) := fun i hi => wE_in (F := F) (n := n) (k := k) (by omega) (by omega)
  unfold m_wordToken m_wordToken_3
  rw [lp_sc1 (P := fun j => ¬ wb (F j)) (fun j : Nat => ((j : Int), t)) (fun j : Nat => ((j : Int), t)) n (fun j hj => by
    have a := h.2.2.2.2 j
    simp only [m_wordToken_3b]
    rw [mta h (by omega), bq, cAt_lt hj]
    by_cases c : wb (F j)
    · rw [mwby c, bq, gr (by omega), if_neg (by omega), if_neg (fun q => q c)]
      rfl
    · rw [mwbn ⟨by omega, by omega⟩ c, bq, gr (by omega), if_pos rfl, if_pos c]) (by
    simp only [m_wordToken_3b]
    rw [mta h (by omega), bq, cAt_ge (by omega), mwbn ⟨by omega, by omega⟩ (by omega), bq, gr (by omega), if_pos rfl]) k (by omega), bn]
  show m_wordToken_24 N g (k : Int) low ((wE F n k : Nat) : Int) t = _
  generalize wE F n k = e at *
  obtain ⟨z, rfl⟩ : ∃ z, e = k + z := ⟨e - k, by omega⟩
  rw [show k + z - k = z by omega] at *
  have hag : bs (t 123) k z = bs F k z := bs_ext (fun i hi => h.2.2.1 (k + i) (by omega))
  have hkk := h.2.2.1 k hk
  have hF := h.2.2.2.2 k
  unfold m_wordToken_24
  rw [gr (by omega)]
  by_cases c : 16 < z
  · rw [if_pos (by omega), if_pos c]
  rw [if_neg (by omega), if_neg c]
  have go : m_wordToken_50 N g (k : Int) ((k + z : Nat) : Int) t = some (((k + z : Nat) : Int), mtk t m (if fw tab (bs F k z) 0 = -1 then 1 else 5) (k : Int) ((k + z : Nat) : Int) (fw tab (bs F k z) 0)) := by
    have r := fw_rg (b := bs F k z) tab 0
    unfold m_wordToken_50 m_wordToken_73
    rw [show ((k + z : Nat) : Int) - (k : Int) = (z : Int) by omega, wordOf_ok tab hN hl hns (by omega) (fun i hi => by
      rw [h.2.2.1 (k + i) (by omega)]
      have := hI i hi
      omega) hb, bq, hag, gr (by omega)]
    by_cases c2 : fw tab (bs F k z) 0 = -1
    · rw [if_pos (by omega), if_pos c2, mtk_ok hm hm', bq]
    · rw [if_neg (by omega), if_neg c2, mtk_ok hm hm', bq]
  rcases hlow with q | ⟨q, q2⟩
  · rw [gr (by omega), if_pos q, go]
  · rw [gr (by omega), if_neg (by omega), gd_pos (by omega), Int.toNat_natCast, hkk, gr (by omega), if_neg q2, go]
/-! numbers -/
theorem mnt_ok {M : Nat} {G : Int} (hM : M ≤ 5) (hG : 0 ≤ G ∧ G ≤ 32767) (h : tkR F n t) (hm : t 121 9 = (m : Int)) (hm' : m < 2002) (hk : k < n) (hd : dg (F k)) : m_numberToken (k : Int) (M : Int) G t = if wE F n k - k ≤ M ∧ (∀ i, i < wE F n k - k → dg (F (k + i))) ∧ nv F k (wE F n k - k) ≤ G then some (((wE F n k : Nat) : Int), mtk t m 2 (k : Int) ((wE F n k : Nat) : Int) (nv F k (wE F n k - k))) else some (-1, t) := by
  have hle := wE_le (F := F) (n := n) (k := k) (by omega)
  have hg := wE_gt (F := F) hk (Or.inr (Or.inl hd))
  have h2 := h.2.1
  have hI : ∀ i, i < wE F n k - k → wb (F (k + i)) := fun i hi => wE_in (F := F) (n := n) (k := k) (by omega) (by omega)
  unfold m_numberToken m_numberToken_6
  have hL := lp_sc1 (f := fun l : Int × Int × iS => m_numberToken_6b (k : Int) (M : Int) G (l.1) (l.2.1) (l.2.2)) (P := fun i => ¬ dg (cAt F n (k + i))) (fun i : Nat => (((k + i : Nat) : Int), nv F k i, t)) (fun i : Nat => (((k + i : Nat) : Int), nv F k i, t)) (M + 1) (fun i hi => by
    have a := cAt_rg (n := n) (i := k + i) h.2.2.2.2
    show m_numberToken_6b (k : Int) (M : Int) G ((k + i : Nat) : Int) (nv F k i) t = _
    unfold m_numberToken_6b
    rw [mta h (by omega), bq]
    by_cases c : dg (cAt F n (k + i))
    · have ci : k + i < n := by
        by_cases q : k + i < n
        · exact q
        · rw [cAt_ge (by omega)] at c; omega
      rw [mdy c, bq, gr (by omega), if_neg (by omega), gr (by omega), gr (by omega), if_neg (by omega), gd_pos (by omega), Int.toNat_natCast, h.2.2.1 (k + i) ci, if_neg (fun q => q c)]
      rfl
    · rw [mdn ⟨by omega, by omega⟩ c, bq, gr (by omega), if_pos rfl, if_pos c]) (by
    have a := cAt_rg (n := n) (i := k + (M + 1)) h.2.2.2.2
    show m_numberToken_6b (k : Int) (M : Int) G ((k + (M + 1) : Nat) : Int) (nv F k (M + 1)) t = _
    unfold m_numberToken_6b
    rw [mta h (by omega), bq]
    by_cases c : dg (cAt F n (k + (M + 1)))
    · rw [mdy c, bq, gr (by omega), if_neg (by omega), gr (by omega), gr (by omega), if_pos (by omega)]
    · rw [mdn ⟨by omega, by omega⟩ c, bq, gr (by omega), if_pos rfl]) 0 (by omega)
  simp only [Nat.add_zero] at hL
  rw [show (lp (L := Int × Int × iS) (E := Int × Int × iS) (fun l => m_numberToken_6b (k : Int) (M : Int) G (l.1) (l.2.1) (l.2.2)) ((k : Int), 0, t)) = _ from hL, bn]
  have q0 := scn_le (P := fun i => ¬ dg (cAt F n (k + i))) (M + 1 - 0) 0
  have qn := fun i hi => scn_not (P := fun i => ¬ dg (cAt F n (k + i))) (M + 1 - 0) 0 i (Nat.zero_le _) hi
  have qi := scn_is (P := fun i => ¬ dg (cAt F n (k + i))) (M + 1 - 0) 0
  simp only at *
  generalize scn (fun i => ¬ dg (cAt F n (k + i))) 0 (M + 1 - 0) = d at *
  have qd : ∀ i, i < d → k + i < n ∧ dg (F (k + i)) := by
    intro i hi
    have := Decidable.not_not.mp (qn i hi)
    by_cases q : k + i < n
    · rw [cAt_lt q] at this
      exact ⟨q, this⟩
    · rw [cAt_ge (by omega)] at this; omega
  unfold m_numberToken_53
  rw [gr (by omega), gr (by omega)]
  by_cases c1 : M < d
  · rw [if_pos (by omega), if_neg]
    rintro ⟨g1, g2, g3⟩
    have g4 := wE_at (F := F) (n := n) (k := k) (by omega)
    have g5 := qd (wE F n k - k) (by omega)
    rw [show k + (wE F n k - k) = wE F n k by omega] at g5
    exact g4 g5.1 (Or.inr (Or.inl g5.2))
  rw [if_neg (by omega), mta h (by omega), bq]
  have a := cAt_rg (n := n) (i := k + d) h.2.2.2.2
  have qd2 := qi (by omega)
  by_cases c2 : wb (cAt F n (k + d))
  · rw [mwby c2, bq, gr (by omega), if_neg (by omega), if_neg]
    rintro ⟨g1, g2, g3⟩
    have g6 : k + d < n := by
      by_cases q : k + d < n
      · exact q
      · rw [cAt_ge (by omega)] at c2; omega
    rw [cAt_lt g6] at c2 qd2
    have g7 : k + d < wE F n k := by
      rcases Nat.lt_or_ge (k + d) (wE F n k) with q | q
      · exact q
      · rcases Nat.lt_or_ge (wE F n k) (k + d) with q3 | q3
        · have g4 := wE_at (F := F) (n := n) (k := k) (by omega) (by omega)
          have g5 := qd (wE F n k - k) (by omega)
          rw [show k + (wE F n k - k) = wE F n k by omega] at g5
          exact absurd (Or.inr (Or.inl g5.2)) g4
        · have q4 : wE F n k = k + d := by omega
          have g4 := wE_at (F := F) (n := n) (k := k) (by omega) (by omega)
          rw [q4] at g4
          exact absurd c2 g4
    exact qd2 (g2 d (by omega))
  rw [mwbn ⟨by omega, by omega⟩ c2, bq, gr (by omega), if_pos rfl]
  have dl : k + d ≤ n := by
    rcases Nat.eq_zero_or_pos d with q | q
    · omega
    · have := (qd (d - 1) (by omega)).1; omega
  have eE : wE F n k = k + d := by
    refine scn_at (P := fun j => ¬ wb (F j)) (by omega) (by omega) (fun j j1 j2 => ?_) (fun j2 => ?_)
    · have := (qd (j - k) (by omega)).2
      rw [show k + (j - k) = j by omega] at this
      exact fun q => q (Or.inr (Or.inl this))
    · rw [cAt_lt (by omega)] at c2
      exact c2
  rw [eE, show k + d - k = d by omega]
  have nr := nv_rg (f := F) (st := k) (k := d) (by omega) (fun i hi => (qd i hi).2)
  rw [gr (by omega), gr (by omega)]
  by_cases c3 : nv F k d ≤ G
  · rw [if_pos c3, if_pos ⟨by omega, fun i hi => (qd i hi).2, c3⟩, mtk_ok hm hm', bq]
  · rw [if_neg c3, if_neg (fun q => c3 q.2.2)]
theorem trn_ok {ch : Int} (h : tkC F n s) (hp : s 2 10 = (k : Int)) (hch : s 2 11 = ch) (h01 : b01 ch) (hk : k < n) (hd : dg (F k)) (hj : j < 2001) : (wE F n k - k ≤ (if ch = 0 then 5 else 2) ∧ (∀ i, i < wE F n k - k → dg (F (k + i))) ∧ nv F k (wE F n k - k) ≤ 32767 → tok_readNumber (j : Int) s = some (4, up (up s 11 j (nv F k (wE F n k - k))) 2 10 ((wE F n k : Nat) : Int))) ∧ (¬ (wE F n k - k ≤ (if ch = 0 then 5 else 2) ∧ (∀ i, i < wE F n k - k → dg (F (k + i))) ∧ nv F k (wE F n k - k) ≤ 32767) → ∃ s', tok_readNumber (j : Int) s = some (1, s') ∧ ∀ c q, ¬ (c = 2 ∧ q = 10) → ¬ (q = j ∧ (c = 11 ∨ c = 12 ∨ c = 13)) → s' c q = s c q) := by
  have hle := wE_le (F := F) (n := n) (k := k) (by omega)
  have h2 := h.2.1
  have hE := twe h hp (by omega)
  generalize wE F n k = e at *
  obtain ⟨z, rfl⟩ : ∃ z, e = k + z := ⟨e - k, by omega⟩
  rw [show k + z - k = z by omega] at *
  obtain ⟨M, hM, hM5, eM⟩ : ∃ M : Nat, (if ch = 0 then 5 else 2) = M ∧ M ≤ 5 ∧ tok_readNumber (j : Int) s = tok_readNumber_23 (j : Int) ((k + z : Nat) : Int) (M : Int) (((k + z : Nat) : Int) - (k : Int)) s := by
    unfold tok_readNumber
    rw [hE, bq, hch, hp, gr (by omega)]
    rcases h01 with q | q
    · exact ⟨5, by rw [if_pos q], by omega, by rw [if_pos q]; rfl⟩
    · exact ⟨2, by rw [if_neg (by omega)], by omega, by rw [if_neg (by omega)]; rfl⟩
  rw [hM, eM]
  unfold tok_readNumber_23
  rw [gr (by omega), gr (by omega)]
  by_cases c : z ≤ M
  case neg =>
    rw [if_neg (by omega)]
    exact ⟨fun q => absurd q.1 c, fun _ => ⟨s, rfl, fun _ _ _ _ => rfl⟩⟩
  rw [if_pos (by omega), hp]
  unfold tok_readNumber_36
  have hL := lp_scn (f := fun l : Int × Int × iS => tok_readNumber_36b (j : Int) ((k + z : Nat) : Int) (l.1) (l.2.1) (l.2.2)) (P := fun i => ¬ dg (F (k + i))) (fun i : Nat => (nv F k i, ((k + i : Nat) : Int), s)) (fun _ => Sum.inl s) (Sum.inr (nv F k z, s)) z (fun i hi => by
    have a := h.2.2.2.2 (k + i)
    show tok_readNumber_36b (j : Int) ((k + z : Nat) : Int) (nv F k i) ((k + i : Nat) : Int) s = _
    unfold tok_readNumber_36b
    rw [gr (by omega), gr (by omega), if_neg (by omega), tba h (by omega), bq, cAt_lt (by omega)]
    by_cases c2 : dg (F (k + i))
    · rw [xdy c2, bq, gr (by omega), if_neg (by omega), tba h (by omega), bq, cAt_lt (by omega), if_neg (fun q => q c2)]
      rfl
    · rw [xdn ⟨by omega, by omega⟩ c2, bq, gr (by omega), if_pos rfl, if_pos c2]) (by
    show tok_readNumber_36b (j : Int) ((k + z : Nat) : Int) (nv F k z) ((k + z : Nat) : Int) s = _
    unfold tok_readNumber_36b
    rw [gr (by omega), gr (by omega), if_pos (by omega)]) z 0 (by omega)
  simp only [Nat.add_zero] at hL
  rw [show (lp (L := Int × Int × iS) (E := (iS) ⊕ (Int × iS)) (fun l => tok_readNumber_36b (j : Int) ((k + z : Nat) : Int) (l.1) (l.2.1) (l.2.2)) (0, (k : Int), s)) = _ from hL, bn]
  by_cases c3 : scn (fun i => ¬ dg (F (k + i))) 0 z < z
  · rw [if_pos c3]
    refine ⟨fun q => absurd (q.2.1 _ c3) (scn_is (P := fun i => ¬ dg (F (k + i))) z 0 (by omega)), fun _ => ⟨s, rfl, fun _ _ _ _ => rfl⟩⟩
  · rw [if_neg c3]
    have q0 := scn_le (P := fun i => ¬ dg (F (k + i))) z 0
    have ad : ∀ i, i < z → dg (F (k + i)) := fun i hi => Decidable.not_not.mp (scn_not (P := fun i => ¬ dg (F (k + i))) z 0 i (Nat.zero_le _) (by omega))
    have nr := nv_rg (f := F) (st := k) (k := z) (by omega) ad
    have go : tok_readNumber_77 (j : Int) ((k + z : Nat) : Int) (nv F k z) s = if nv F k z ≤ 32767 then some (4, up (up s 11 j (nv F k z)) 2 10 ((k + z : Nat) : Int)) else some (1, up (up s 11 j (nv F k z)) 2 10 ((k + z : Nat) : Int)) := by
      unfold tok_readNumber_77
      rw [gd_pos (by omega), lt_eq, lt_eq, gr (by omega), Int.toNat_natCast]
    simp only [Sum.elim_inr]
    rw [go]
    refine ⟨fun q => by rw [if_pos q.2.2], fun q => ⟨up (up s 11 j (nv F k z)) 2 10 ((k + z : Nat) : Int), by rw [if_neg (fun g => q ⟨c, ad, g⟩)], fun c' q' g1 g2 => ?_⟩⟩
    rw [up_ne (by omega), up_ne (by omega)]
end TK2
