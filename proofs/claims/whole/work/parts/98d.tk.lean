/-! tokens: one token of a text of chips; all tokens -/
section TK4
variable {F : Nat → Int} {n k i j m : Nat} {s t : iS} {x : Int}
theorem nv_99 {z : Nat} (h1 : 1 ≤ z) (h2 : z ≤ 2) (h : ∀ i, i < z → dg (F (k + i))) : 0 ≤ nv F k z ∧ nv F k z ≤ 99 := by
  have a := h 0 (by omega)
  rw [Nat.add_zero] at a
  by_cases c : z = 1
  · subst c
    simp only [nv, Nat.add_zero]
    omega
  · have : z = 2 := by omega
    subst this
    have b := h 1 (by omega)
    simp only [nv, Nat.add_zero]
    omega
theorem trt_H (h : tkC F n s) (hT : KWT s) (hp : s 2 10 = (k : Int)) (hch : s 2 11 = 1) (hj : j < 2001) (g : tkR F n t) (hm : t 121 9 = (m : Int)) (hm' : m < 2002) (hk : k < n) : ∃ kd s' r t', tok_readToken (j : Int) s = some (kd, s') ∧ m_chipToken (k : Int) t = some (r, t') ∧ TRs 1 F n j k m s t kd s' r t' := by
  have h2 := h.2.1
  have a := h.2.2.2.2 k
  have hr : rg (F k) := ⟨by omega, by omega⟩
  have hk3 := g.2.2.1 k hk
  unfold tok_readToken m_chipToken
  rw [hp, tba h (by omega), bq, cAt_lt hk, gr (by omega), if_pos (by omega), gd_pos (by omega), Int.toNat_natCast, hk3]
  by_cases cd : dg (F k)
  · -- a number
    rw [xdy cd, bq, gr (by omega), if_neg (by omega), mln hr (by omega), bq, gr (by omega), if_pos rfl, mdy cd, bq, gr (by omega), if_neg (by omega)]
    have hle := wE_le (F := F) (n := n) (k := k) (by omega)
    have hgt := wE_gt (F := F) hk (Or.inr (Or.inl cd))
    obtain ⟨q1, q2⟩ := trn_ok h hp hch (Or.inr rfl) hk cd hj
    rw [if_neg (by decide)] at q1 q2
    rw [show (2 : Int) = ((2 : Nat) : Int) from rfl, mnt_ok (by omega) (by omega) g hm hm' hk cd]
    by_cases c : wE F n k - k ≤ 2 ∧ (∀ i, i < wE F n k - k → dg (F (k + i)))
    · have nr := nv_99 (F := F) (k := k) (z := wE F n k - k) (by omega) c.1 c.2
      rw [if_pos ⟨c.1, c.2, nr.2⟩, q1 ⟨c.1, c.2, by omega⟩, bq, bq]
      refine ⟨_, _, _, _, rfl, rfl, fun c' q' g1 g2 => ?_, Or.inr ⟨wE F n k, 2, _, hgt, hle.2, rfl, up_same _ _ _ _, rfl, Or.inr (Or.inl ⟨rfl, rfl, ?_, ?_, ?_⟩)⟩⟩
      · rw [up_ne (by omega), up_ne (by omega)]
      · rw [up_ne (by omega), up_same]
      · rw [up_ne (by omega), up_same]; exact nr.1
      · rw [up_ne (by omega), up_same]; omega
    · rw [if_neg (fun q => c ⟨q.1, q.2.1⟩)]
      obtain ⟨s', e1, e2⟩ := q2 (fun q => c ⟨q.1, q.2.1⟩)
      rw [e1, bq, bq]
      exact ⟨_, _, _, _, rfl, rfl, e2, Or.inl ⟨rfl, rfl, rfl⟩⟩
  rw [xdn hr cd, bq, gr (by omega), if_pos rfl]
  by_cases cw : ly (F k)
  · -- a word
    have hw : wb (F k) := by omega
    have hle := wE_le (F := F) (n := n) (k := k) (by omega)
    have hgt := wE_gt (F := F) hk hw
    rw [xly cw, bq, gr (by omega), if_neg (by omega), mly cw, bq, gr (by omega), if_neg (by omega)]
    unfold tok_readToken_48
    rw [trw_ok h hT hp hch (Or.inr rfl) hk hw hj, mwt_ok tH (by decide) tH_fl tH_ns (by decide) g hm hm' hk hw (Or.inr ⟨rfl, by omega⟩)]
    rw [if_neg (show ¬ (1 : Int) = 0 by decide), if_neg (show ¬ (1 : Int) = 0 by decide)]
    by_cases c : 16 < wE F n k - k
    · rw [if_pos c, if_pos c, bq, bq]
      exact ⟨_, _, _, _, rfl, rfl, fun _ _ _ _ => rfl, Or.inl ⟨rfl, rfl, rfl⟩⟩
    · rw [if_neg c, if_neg c, bq, bq]
      have r := fw_rg (b := bs F k (wE F n k - k)) tH 0
      have hlen : tH.length = 6 := rfl
      refine ⟨_, _, _, _, rfl, rfl, fun c' q' g1 g2 => ?_, Or.inr ⟨wE F n k, _, _, hgt, hle.2, rfl, up_same _ _ _ _, rfl, ?_⟩⟩
      · rw [up_ne (by omega), up_ne (by omega), up_ne (by omega)]
      · by_cases c2 : fw tH (bs F k (wE F n k - k)) 0 = -1
        · rw [if_pos c2, if_pos c2]
          refine Or.inl ⟨rfl, rfl, wE F n k - k, by omega, by omega, by omega, by omega, fun i hi => wE_in (F := F) (n := n) (k := k) (by omega) (by omega), ?_, ?_⟩
          · rw [up_ne (by omega), up_ne (by omega), up_same]
          · rw [up_ne (by omega), up_same]
        · rw [if_neg c2, if_neg c2]
          exact Or.inr (Or.inr (Or.inr (Or.inr ⟨rfl, by rw [if_neg (by decide)], by omega, by rw [if_neg (by decide)]; omega⟩)))
  have eC : (bd (x_isLetter (F k) s) fun r7 s7 => gd (rg r7) (if r7 = 0 then if F k = 95 then gd (rg (s7 2 11)) (if s7 2 11 = 0 then tok_readToken_48 (j : Int) s7 else tok_readToken_54 (j : Int) (F k) s7) else tok_readToken_54 (j : Int) (F k) s7 else tok_readToken_48 (j : Int) s7)) = tok_readToken_54 (j : Int) (F k) s := by
    rw [xln hr cw, bq, gr (by omega), if_pos rfl]
    by_cases c1 : F k = 95
    · rw [if_pos c1, gr (by omega), if_neg (by omega)]
    · rw [if_neg c1]
  have eC2 : tok_readToken_54 (j : Int) (F k) s = tok_readToken_73 (F k) s := by
    unfold tok_readToken_54
    rw [gr (by omega)]
    by_cases c1 : F k = 34
    · rw [if_pos c1, gr (by omega), if_neg (by omega)]
    · rw [if_neg c1]
  rw [eC, eC2, mln hr cw, bq, gr (by omega), if_pos rfl, mdn hr cd, bq, gr (by omega), if_pos rfl, gr (by omega)]
  unfold tok_readToken_73 tok_readSign
  rw [gr (by omega), if_neg (by omega), gr (by omega)]
  have e41 : tok_readSign_41 (F k) s = tok_readSign_55v1 (F k) s := by
    unfold tok_readSign_41
    rw [gr (by omega), if_neg (by omega)]
  obtain ⟨r, e1, e2, e3⟩ := sixH (s := s) (v := F k) a
  have hno : F k ∉ sH → tok_readSign_55v1 (F k) s = some (1, s) := by
    intro c
    unfold tok_readSign_55v1
    rw [e1, bq, gd_pos e2, if_neg (fun q => c (e3.mp q))]
  by_cases c46 : F k = 46
  · have b := cAt_rg (n := n) (i := k + 1) h.2.2.2.2
    rw [if_pos c46, hp, tba1 h (by omega), bq, gr (by omega)]
    have eR : ∀ A B : Option (Int × iS), (if F k = 40 then A else if F k = 41 then A else if F k = 44 then A else if F k = 46 then B else A) = B := by
      intro A B
      rw [if_neg (by omega), if_neg (by omega), if_neg (by omega), if_pos c46]
    by_cases c1 : cAt F n (k + 1) = 46
    · have ck : k + 1 < n := by
        by_cases z : k + 1 < n
        · exact z
        · rw [cAt_ge (by omega)] at c1; omega
      rw [if_pos c1, lt_eq, bq, if_neg (by omega), if_neg (by omega), if_neg (by omega), if_pos c46, mta1 g (by omega), bq, gr (by omega), if_pos c1, mtk_ok hm hm', bq]
      refine ⟨46, _, ((k + 2 : Nat) : Int), mtk t m 4 (k : Int) ((k + 2 : Nat) : Int) (F k), rfl, rfl, fun c' q' g1 g2 => up_ne g1, Or.inr ⟨k + 2, 4, F k, by omega, by omega, rfl, ?_, rfl, Or.inr (Or.inr (Or.inr (Or.inl ⟨rfl, by omega, by omega, by omega⟩)))⟩⟩
      rw [up_same, hp]
      rfl
    · rw [if_neg c1, e41, hno (by rw [c46]; decide), bq, if_neg (by omega), if_neg (by omega), if_neg (by omega), if_pos c46, mta1 g (by omega), bq, gr (by omega), if_neg c1]
      exact ⟨_, _, _, _, rfl, rfl, fun _ _ _ _ => rfl, Or.inl ⟨rfl, rfl, rfl⟩⟩
  rw [if_neg c46, e41]
  by_cases c : F k ∈ sH
  · unfold tok_readSign_55v1
    rw [e1, bq, gd_pos e2, if_pos (e3.mpr c), lt_eq, bq]
    have hm3 : 33 ≤ F k ∧ F k ≤ 126 := by
      unfold sH at c
      simp only [List.mem_cons, List.not_mem_nil, or_false] at c
      omega
    refine ⟨F k, up s 2 10 (s 2 10 + 1), ((k + 1 : Nat) : Int), mtk t m 4 (k : Int) ((k + 1 : Nat) : Int) (F k), rfl, ?_, fun c' q' g1 g2 => up_ne g1, Or.inr ⟨k + 1, 4, F k, by omega, by omega, rfl, by rw [up_same, hp]; rfl, rfl, Or.inr (Or.inr (Or.inr (Or.inl ⟨rfl, rfl, hm3.1, hm3.2⟩)))⟩⟩
    unfold sH at c
    simp only [List.mem_cons, List.not_mem_nil, or_false] at c
    rcases c with c | c | c | c | c | c | c | c | c | c <;> simp (disch := omega) only [↓if_neg, ↓if_pos, mtk_ok hm hm', bq] <;> rfl
  · rw [hno c, bq]
    refine ⟨1, s, -1, t, rfl, ?_, fun _ _ _ _ => rfl, Or.inl ⟨rfl, rfl, rfl⟩⟩
    unfold sH at c
    simp only [List.mem_cons, List.not_mem_nil, or_false] at c
    simp (disch := omega) only [↓if_neg]
def pu (P : Nat → Nat) (i k : Nat) : Nat → Nat := fun j => if j = i then k else P j
theorem pu_at {P : Nat → Nat} {i k : Nat} : pu P i k i = k := if_pos rfl
theorem pu_ne {P : Nat → Nat} {i k j : Nat} (h : j ≠ i) : pu P i k j = P j := if_neg h
theorem pu_eq {P : Nat → Nat} {i k j : Nat} (h : j = i) : pu P i k j = k := if_pos h
/-- all tokens so far: i of them, the text read up to e -/
def TKI (ch : Int) (F : Nat → Int) (n i : Nat) (P : Nat → Nat) (s t : iS) : Prop :=
  (∀ j, j < i → s 10 j = (P j : Int) ∧ t 125 j = (P j : Int) ∧ P j ≤ n ∧ TG ch F n (P j) (s 9 j) (s 11 j) (s 12 j) (s 13 j) (t 124 j) (t 126 j) (t 127 j)) ∧ (∀ j, j + 1 < i → P j < P (j + 1))
/-- all tokens: the last one is none -/
def TKR (ch : Int) (F : Nat → Int) (n N : Nat) (P : Nat → Nat) (s t : iS) : Prop :=
  TKI ch F n (N - 1) P s t ∧ 1 ≤ N ∧ N ≤ (if ch = 0 then 1001 else 2001) ∧ s 2 8 = (N : Int) ∧ s 10 (N - 1) = (P (N - 1) : Int) ∧ t 125 (N - 1) = (P (N - 1) : Int) ∧ P (N - 1) ≤ n ∧ (∀ j, j + 1 < N → P j < P (j + 1)) ∧ (s 9 (N - 1) = 0 ∧ t 124 (N - 1) = 0 ∧ P (N - 1) = n ∨ s 9 (N - 1) = 1 ∧ t 124 (N - 1) = 6 ∨ s 9 (N - 1) = 2 ∧ t 124 (N - 1) = 7)
theorem TKI_of {ch : Int} {P P' : Nat → Nat} {s s' t t' : iS} (h : TKI ch F n i P s t) (hP : ∀ j, j < i → P' j = P j) (hs : ∀ c j, j < i → 9 ≤ c → c ≤ 13 → s' c j = s c j) (ht : ∀ c j, j < i → 124 ≤ c → c ≤ 127 → t' c j = t c j) : TKI ch F n i P' s' t' := by
  refine ⟨fun j hj => ?_, fun j hj => ?_⟩
  · rw [hP j hj, hs 9 j hj (by omega) (by omega), hs 10 j hj (by omega) (by omega), hs 11 j hj (by omega) (by omega), hs 12 j hj (by omega) (by omega), hs 13 j hj (by omega) (by omega), ht 124 j hj (by omega) (by omega), ht 125 j hj (by omega) (by omega), ht 126 j hj (by omega) (by omega), ht 127 j hj (by omega) (by omega)]
    exact h.1 j hj
  · rw [hP j (by omega), hP (j + 1) hj]
    exact h.2 j hj
theorem tks_nx {v3 v4 v5 v4' v5' : Int} {s s' : iS} (h : tok_scan_51b v3 v4 v5 s = some (.inl (v4', v5', s'))) : tok_scan_51 v3 v4 v5 s = tok_scan_51 v3 v4' v5' s' := by
  unfold tok_scan_51
  rw [lp_next (f := fun l : Int × Int × iS => tok_scan_51b v3 (l.1) (l.2.1) (l.2.2)) (l := (v4, v5, s)) h]
theorem tks_en {v3 v4 v5 : Int} {s : iS} (h3 : rg v3) (h5 : rg v5) (h4 : rg v4) (h : v4 ≤ 2) : tok_scan_51 v3 v4 v5 s = some (0, s) := by
  unfold tok_scan_51
  rw [lp_end (f := fun l : Int × Int × iS => tok_scan_51b v3 (l.1) (l.2.1) (l.2.2)) (l := (v4, v5, s)) (e := s) (by
    show tok_scan_51b v3 v4 v5 s = _
    unfold tok_scan_51b
    rw [gd_pos h5, gd_pos h3]
    by_cases c1 : v3 < v5
    · rw [if_pos c1]
    · rw [if_neg c1]
      by_cases c2 : 2001 ≤ v5
      · rw [if_pos c2]
      · rw [if_neg c2, gd_pos h4, if_pos h]), bn]
theorem mtz_nx {v1 v2 v3 v4 v3' v4' : Int} {t t' : iS} (h : m_tokenize_19b v1 v2 v3 v4 t = some (.inl (v3', v4', t'))) : m_tokenize_19 v1 v2 v3 v4 t = m_tokenize_19 v1 v2 v3' v4' t' := by
  unfold m_tokenize_19
  rw [lp_next (f := fun l : Int × Int × iS => m_tokenize_19b v1 v2 (l.1) (l.2.1) (l.2.2)) (l := (v3, v4, t)) h]
theorem mtz_en {v1 v2 v3 : Int} {t : iS} : m_tokenize_19 v1 v2 v3 0 t = some (0, t) := by
  unfold m_tokenize_19
  rw [lp_end (f := fun l : Int × Int × iS => m_tokenize_19b v1 v2 (l.1) (l.2.1) (l.2.2)) (l := (v3, 0, t)) (e := t) (by
    show m_tokenize_19b v1 v2 v3 0 t = _
    unfold m_tokenize_19b
    rw [gr (by omega), if_pos rfl]), bn]
theorem mtk_ne {a b c d : Int} {c' q : Nat} (h1 : ¬ (c' = 121 ∧ q = 9)) (h2 : c' < 124 ∨ 127 < c' ∨ q ≠ m) : mtk t m a b c d c' q = t c' q := by
  unfold mtk
  rw [up_ne h1, up_ne (by omega), up_ne (by omega), up_ne (by omega), up_ne (by omega)]
/-- the last token is put down -/
theorem tks_last {ch kd a : Int} {R : Nat} {P : Nat → Nat} {s0 : iS} (hR : R = if ch = 0 then 1000 else 2000) (hi : i ≤ R) (hI : TKI ch F n i P s t) (hlt : ∀ j, j < i → P j < k) (hkn : k ≤ n) (hs : ∀ c j, j < i → 9 ≤ c → c ≤ 13 → s0 c j = s c j) (h10 : s0 10 i = (k : Int)) (hkd : kd = 0 ∧ a = 0 ∧ k = n ∨ kd = 1 ∧ a = 6) (d1 : Int) : ∃ N P' s', tok_scan_105 (R : Int) (i : Int) kd s0 = some (.inl (kd, ((i + 1 : Nat) : Int), s')) ∧ TKR ch F n N P' s' (mtk t i a (k : Int) (k : Int) d1) ∧ s' 2 9 = s0 2 9 := by
  have hR2 : R ≤ 2000 := by rw [hR]; split <;> omega
  have e1 : tok_scan_105 (R : Int) (i : Int) kd s0 = some (.inl (kd, ((i + 1 : Nat) : Int), up (up s0 9 i kd) 2 8 ((i + 1 : Nat) : Int))) := by
    have e0 : tok_scan_122 (R : Int) kd (i : Int) s0 = some (.inl (kd, ((i + 1 : Nat) : Int), up (up s0 9 i kd) 2 8 ((i + 1 : Nat) : Int))) := by
      unfold tok_scan_122
      rw [gd_pos (by omega), lt_eq, lt_eq, Int.toNat_natCast]
      rfl
    unfold tok_scan_105
    rw [gr (by omega), gr (by omega), gr (by omega), if_pos (show kd ≤ 2 by omega), e0]
    split <;> rfl
  refine ⟨i + 1, pu P i k, _, e1, ?_, by rw [up_ne (by omega), up_ne (by omega)]⟩
  have hP : ∀ j, j < i → pu P i k j = P j := fun j hj => pu_ne (by omega)
  unfold TKR
  rw [show i + 1 - 1 = i by omega]
  refine ⟨TKI_of hI hP (fun c j hj h1 h2 => ?_) (fun c j hj h1 h2 => ?_), by omega, ?_, up_same _ _ _ _, ?_, ?_, ?_, fun j hj => ?_, ?_⟩
  · rw [up_ne (by omega), up_ne (by omega)]
    exact hs c j hj h1 h2
  · exact mtk_ne (by omega) (by omega)
  · split
    · rename_i q; rw [if_pos q] at hR; omega
    · rename_i q; rw [if_neg q] at hR; omega
  · rw [up_ne (by omega), up_ne (by omega), h10, pu_at]
  · unfold mtk
    rw [up_ne (by omega), up_ne (by omega), up_ne (by omega), up_same, pu_at]
  · rw [pu_at]; exact hkn
  · by_cases c : j + 1 = i
    · rw [pu_ne (by omega), pu_eq c]
      exact hlt j (by omega)
    · rw [pu_ne (by omega), pu_ne c]
      exact hI.2 j (by omega)
  · rw [up_ne (by omega), up_same, pu_at]
    unfold mtk
    rw [up_ne (by omega), up_ne (by omega), up_ne (by omega), up_ne (by omega), up_same]
    rcases hkd with ⟨q1, q2, q3⟩ | ⟨q1, q2⟩
    · exact Or.inl ⟨q1, q2, q3⟩
    · exact Or.inr (Or.inl ⟨q1, q2⟩)
theorem TG_gt {ch : Int} {a : Nat} {k9 k11 k12 k13 r124 r126 r127 : Int} (h : TG ch F n a k9 k11 k12 k13 r124 r126 r127) : 2 < k9 ∧ k9 < 400 := by
  rcases h with ⟨_, h, _⟩ | ⟨_, h, _⟩ | ⟨_, h, _⟩ | ⟨_, h, h1, h2⟩ | ⟨_, h, h1, h2⟩
  · omega
  · omega
  · omega
  · omega
  · split at h <;> rename_i q
    · rw [if_pos q] at h2; omega
    · rw [if_neg q] at h2; omega
theorem mtz_go {v1 v2 v3 v4 e : Int} {t t' : iS} {z : Int × iS} (h : m_tokenize_19b v1 v2 v3 v4 t = bd (m_skip e t') (fun r6 s6 => some (.inl (r6, 1, s6)))) (h2 : bd (m_skip e t') (fun r u => m_tokenize_19 v1 v2 r 1 u) = some z) : m_tokenize_19 v1 v2 v3 v4 t = some z := by
  cases hs : m_skip e t' with
  | none =>
    rw [hs] at h2
    cases h2
  | some q =>
    obtain ⟨r, u⟩ := q
    rw [hs, bq] at h h2
    rw [mtz_nx h, h2]
/-- both find the same tokens -/
theorem scn_ok {ch : Int} {R : Nat} (hch : b01 ch) (hR : R = if ch = 0 then 1000 else 2000) : ∀ (d i e : Nat) (P : Nat → Nat) (kd : Int) (s t : iS), R < i + d → i ≤ R → 2 < kd ∧ kd < 400 → tkC F n s → tkR F n t → KWT s → s 2 11 = ch → t 121 9 = (i : Int) → s 2 10 = (e : Int) → e ≤ n → TKI ch F n i P s t → (∀ j, j < i → P j < e) → ∃ N P' s' t', tok_scan_51 (R : Int) kd (i : Int) s = some (0, s') ∧ bd (m_skip (e : Int) t) (fun r u => m_tokenize_19 (R : Int) ch r 1 u) = some (0, t') ∧ TKR ch F n N P' s' t' ∧ t' 121 10 = t 121 10 ∧ s' 2 9 = s 2 9 := by
  have hR2 : R ≤ 2000 := by rw [hR]; split <;> omega
  intro d
  induction d with
  | zero => intro i e P kd s t hd hi; omega
  | succ d ih =>
    intro i e P kd s t hd hi hkd hC hRr hT h11 h9 h10 hen hI hlt
    obtain ⟨k, g1, g2, g3⟩ := skp_ok hC hRr n e 0 hen (by omega) (by omega)
    have es : up s 2 10 (e : Int) = s := by rw [← h10]; exact up_id
    rw [es] at g3
    have hn := hC.2.1
    have h3 := hRr.1
    have C0 : tok_scan_51b (R : Int) kd (i : Int) s = bd (tok_skipBlanks_2 ((0 : Nat) : Int) s) (fun r7 s7 => gd (0 ≤ (i : Int) ∧ (i : Int) < 2001) (lt' (up s7 10 (i : Int).toNat (s7 2 10)) (fun s9 => gd (rg r7) (if r7 = 0 then tok_scan_105 (R : Int) (i : Int) 1 s9 else bd (tok_readToken (i : Int) s9) (fun r12 s12 => tok_scan_105 (R : Int) (i : Int) r12 s12))))) := by
      unfold tok_scan_51b tok_skipBlanks
      rw [gr (by omega), gr (by omega), if_neg (by omega), if_neg (by omega), gr (by omega), if_neg (by omega)]
      rfl
    have s10 : up (up s 2 10 (k : Int)) 10 i (k : Int) 2 10 = (k : Int) := by rw [up_ne (by omega), up_same]
    have sC : tkC F n (up (up s 2 10 (k : Int)) 10 i (k : Int)) := tkC_of (by rw [up_ne (by omega), up_ne (by omega)]) (by rw [up_cell (by decide), up_cell (by decide)]) hC
    have s11 : up (up s 2 10 (k : Int)) 10 i (k : Int) 2 11 = ch := by rw [up_ne (by omega), up_ne (by omega), h11]
    have sT : KWT (up (up s 2 10 (k : Int)) 10 i (k : Int)) := ⟨TBo (by rw [up_ne (by omega), up_ne (by omega)]) (by rw [up_cell (by decide), up_cell (by decide)]) (by rw [up_cell (by decide), up_cell (by decide)]) hT.1, TBo (by rw [up_ne (by omega), up_ne (by omega)]) (by rw [up_cell (by decide), up_cell (by decide)]) (by rw [up_cell (by decide), up_cell (by decide)]) hT.2⟩
    have si : up (up s 2 10 (k : Int)) 10 i (k : Int) 10 i = (k : Int) := up_same _ _ _ _
    have sj : ∀ c j, j < i → 9 ≤ c → c ≤ 13 → up (up s 2 10 (k : Int)) 10 i (k : Int) c j = s c j := fun c j q1 q2 q3 => by rw [up_ne (by omega), up_ne (by omega)]
    have hlk : ∀ j, j < i → P j < k := fun j hj => by have := hlt j hj; omega
    rcases g3 with ⟨gc, gm⟩ | ⟨gc, gm⟩
    case inr =>
      -- a comment that is not closed
      rw [gc, bq, gd_pos (by omega), lt_eq, up_same, Int.toNat_natCast, gr (by omega), if_pos rfl] at C0
      obtain ⟨N, P', s', q1, q2, q9⟩ := tks_last (a := 6) (kd := 1) hR hi hI hlk g2 sj si (Or.inr ⟨rfl, rfl⟩) 0
      rw [q1] at C0
      refine ⟨N, P', s', _, by rw [tks_nx C0, tks_en ⟨by omega, by omega⟩ ⟨by omega, by omega⟩ (by decide) (by decide)], ?_, q2, mtk_ne (by omega) (by omega), by rw [q9, up_ne (by omega), up_ne (by omega)]⟩
      unfold m_skip
      rw [gm, bq]
      have R0 : m_tokenize_19b (R : Int) ch (-2 - (k : Int)) 1 t = some (.inl (-2 - (k : Int), 0, mtk t i 6 (k : Int) (k : Int) 0)) := by
        unfold m_tokenize_19b
        rw [gr (by omega), if_neg (by omega), gr (by omega), if_neg (by omega), show -2 - (-2 - (k : Int)) = (k : Int) by omega, mtk_ok h9 (by omega), bq]
      rw [mtz_nx R0, mtz_en]
    rw [gc, bq, gd_pos (by omega), lt_eq, up_same, Int.toNat_natCast, gr (by omega), if_neg (by omega)] at C0
    unfold m_skip
    rw [gm, bq]
    by_cases ckn : k = n
    · -- the end
      have eT : tok_readToken (i : Int) (up (up s 2 10 (k : Int)) 10 i (k : Int)) = some (0, up (up s 2 10 (k : Int)) 10 i (k : Int)) := by
        unfold tok_readToken
        rw [s10, tba sC (by omega), bq, cAt_ge (by omega), gr (by omega), if_neg (by omega)]
      rw [eT, bq] at C0
      obtain ⟨N, P', s', q1, q2, q9⟩ := tks_last (a := 0) (kd := 0) hR hi hI hlk g2 sj si (Or.inl ⟨rfl, rfl, ckn⟩) 0
      rw [q1] at C0
      refine ⟨N, P', s', _, by rw [tks_nx C0, tks_en ⟨by omega, by omega⟩ ⟨by omega, by omega⟩ (by decide) (by decide)], ?_, q2, mtk_ne (by omega) (by omega), by rw [q9, up_ne (by omega), up_ne (by omega)]⟩
      have R0 : m_tokenize_19b (R : Int) ch (k : Int) 1 t = some (.inl ((k : Int), 0, mtk t i 0 (k : Int) (k : Int) 0)) := by
        unfold m_tokenize_19b
        rw [gr (by omega), if_neg (by omega), gr (by omega), if_pos (by omega), gr (by omega), if_neg (by omega), h3, ← ckn, mtk_ok h9 (by omega), bq]
      rw [mtz_nx R0, mtz_en]
    have hkn : k < n := by omega
    obtain ⟨kd', s', r, t', e1, e2, e3⟩ : ∃ kd s' r t', tok_readToken (i : Int) (up (up s 2 10 (k : Int)) 10 i (k : Int)) = some (kd, s') ∧ m_tokenize_19b (R : Int) ch (k : Int) 1 t = m_tokenize_94 (R : Int) ch (k : Int) 1 r t' ∧ TRs ch F n i k i (up (up s 2 10 (k : Int)) 10 i (k : Int)) t kd s' r t' := by
      unfold m_tokenize_19b
      rw [gr (by omega), if_neg (by omega), gr (by omega), if_pos (by omega), gr (by omega), if_pos (by omega), gr (by omega)]
      rcases hch with q | q
      · subst q
        rw [if_pos rfl]
        obtain ⟨kd', s', r, t', e1, e2, e3⟩ := trt_L (j := i) sC sT s10 s11 (by omega) hRr h9 (by omega) hkn
        exact ⟨kd', s', r, t', e1, by rw [e2, bq], e3⟩
      · subst q
        rw [if_neg (by decide)]
        obtain ⟨kd', s', r, t', e1, e2, e3⟩ := trt_H (j := i) sC sT s10 s11 (by omega) hRr h9 (by omega) hkn
        exact ⟨kd', s', r, t', e1, by rw [e2, bq], e3⟩
    rw [e1, bq] at C0
    obtain ⟨fr, e3⟩ := e3
    have fj : ∀ c j, j < i → 9 ≤ c → c ≤ 13 → s' c j = s c j := fun c j q1 q2 q3 => by rw [fr c j (by omega) (by omega), sj c j q1 q2 q3]
    have fi : s' 10 i = (k : Int) := by rw [fr 10 i (by omega) (by omega), si]
    rcases e3 with ⟨q1, q2, q3⟩ | ⟨e', a, d', q1, q2, q3, q4, q5, q6⟩
    · -- a token that is none
      subst q1 q2 q3
      obtain ⟨N, P', s'', q1, q2, q9⟩ := tks_last (a := 6) (kd := 1) hR hi hI hlk g2 fj fi (Or.inr ⟨rfl, rfl⟩) 0
      rw [q1] at C0
      refine ⟨N, P', s'', _, by rw [tks_nx C0, tks_en ⟨by omega, by omega⟩ ⟨by omega, by omega⟩ (by decide) (by decide)], ?_, q2, mtk_ne (by omega) (by omega), by rw [q9, fr 2 9 (by omega) (by omega), up_ne (by omega), up_ne (by omega)]⟩
      have R0 : m_tokenize_19b (R : Int) ch (k : Int) 1 t' = some (.inl ((k : Int), 0, mtk t' i 6 (k : Int) (k : Int) 0)) := by
        rw [e2]
        unfold m_tokenize_94
        rw [gr (by omega), if_neg (by omega), mtk_ok h9 (by omega), bq]
      rw [mtz_nx R0, mtz_en]
    -- a token
    have kg := TG_gt q6
    have t9 : t' 121 9 = ((i + 1 : Nat) : Int) := by rw [q5]; unfold mtk; exact up_same _ _ _ _
    have tI : t' 124 i = a ∧ t' 125 i = (k : Int) ∧ t' 126 i = (e' : Int) - (k : Int) ∧ t' 127 i = d' := by
      rw [q5]
      unfold mtk
      refine ⟨?_, ?_, ?_, ?_⟩
      · rw [up_ne (by omega), up_ne (by omega), up_ne (by omega), up_ne (by omega), up_same]
      · rw [up_ne (by omega), up_ne (by omega), up_ne (by omega), up_same]
      · rw [up_ne (by omega), up_ne (by omega), up_same]
      · rw [up_ne (by omega), up_same]
    have tj : ∀ c j, j < i → 124 ≤ c → c ≤ 127 → t' c j = t c j := fun c j z1 z2 z3 => by rw [q5]; exact mtk_ne (by omega) (by omega)
    have tR : tkR F n t' := tkR_of (by rw [q5]; exact mtk_ne (by omega) (by omega)) (by rw [q5]; funext q; exact mtk_ne (by omega) (by omega)) hRr
    have hP : ∀ j, j < i → pu P i k j = P j := fun j hj => pu_ne (by omega)
    by_cases ciR : i = R
    · -- one too many
      subst ciR
      have C1 : tok_scan_105 (i : Int) (i : Int) kd' s' = some (.inl (2, ((i + 1 : Nat) : Int), up (up s' 9 i 2) 2 8 ((i + 1 : Nat) : Int))) := by
        unfold tok_scan_105 tok_scan_122
        rw [gr (by omega), gr (by omega), if_pos rfl, gr (by omega), if_neg (by omega), gd_pos (by omega), lt_eq, lt_eq, Int.toNat_natCast]
        rfl
      rw [C1] at C0
      have R0 : m_tokenize_19b (i : Int) ch (k : Int) 1 t = some (.inl ((k : Int), 0, up t' 124 i 7)) := by
        rw [e2]
        unfold m_tokenize_94
        rw [gr (by omega), if_pos (by omega), gr (by omega), gr (by omega), if_neg (by omega), gd_pos (by omega), lt_eq, Int.toNat_natCast]
      refine ⟨i + 1, pu P i k, _, _, by rw [tks_nx C0, tks_en ⟨by omega, by omega⟩ ⟨by omega, by omega⟩ (by decide) (by decide)], by rw [mtz_nx R0, mtz_en], ?_, by rw [up_ne (by omega), q5]; exact mtk_ne (by omega) (by omega), by rw [up_ne (by omega), up_ne (by omega), fr 2 9 (by omega) (by omega), up_ne (by omega), up_ne (by omega)]⟩
      unfold TKR
      rw [show i + 1 - 1 = i by omega]
      refine ⟨TKI_of hI hP (fun c j hj z1 z2 => ?_) (fun c j hj z1 z2 => ?_), by omega, ?_, up_same _ _ _ _, ?_, ?_, ?_, fun j hj => ?_, ?_⟩
      · rw [up_ne (by omega), up_ne (by omega)]
        exact fj c j hj z1 z2
      · rw [up_ne (by omega)]
        exact tj c j hj z1 z2
      · split
        · rename_i q; rw [if_pos q] at hR; omega
        · rename_i q; rw [if_neg q] at hR; omega
      · rw [up_ne (by omega), up_ne (by omega), fi, pu_at]
      · rw [up_ne (by omega), tI.2.1, pu_at]
      · rw [pu_at]; exact g2
      · by_cases c : j + 1 = i
        · rw [pu_ne (by omega), pu_eq c]
          exact hlk j (by omega)
        · rw [pu_ne (by omega), pu_ne c]
          exact hI.2 j (by omega)
      · rw [up_ne (by omega), up_same, up_same]
        exact Or.inr (Or.inr ⟨rfl, rfl⟩)
    -- the next one
    have C1 : tok_scan_105 (R : Int) (i : Int) kd' s' = some (.inl (kd', ((i + 1 : Nat) : Int), up (up s' 9 i kd') 2 8 ((i + 1 : Nat) : Int))) := by
      unfold tok_scan_105 tok_scan_122
      rw [gr (by omega), gr (by omega), if_neg (by omega), gd_pos (by omega), lt_eq, lt_eq, Int.toNat_natCast]
      rfl
    rw [C1] at C0
    have R0 : m_tokenize_19b (R : Int) ch (k : Int) 1 t = bd (m_skip (e' : Int) t') (fun r6 s6 => some (.inl (r6, 1, s6))) := by
      rw [e2]
      unfold m_tokenize_94
      rw [gr (by omega), if_pos (by omega), gr (by omega), gr (by omega), if_pos (by omega), q3]
    have fC : ∀ c q, ¬ (c = 2 ∧ q = 8) → ¬ (c = 2 ∧ q = 10) → (c < 9 ∨ 13 < c) → up (up s' 9 i kd') 2 8 ((i + 1 : Nat) : Int) c q = s c q := fun c q z1 z2 z3 => by
      rw [up_ne z1, up_ne (by omega), fr c q z2 (by omega), up_ne (by omega), up_ne z2]
    obtain ⟨N, P', sF, tF, f1, f2, f3, f4, f5⟩ := ih (i + 1) e' (pu P i k) kd' (up (up s' 9 i kd') 2 8 ((i + 1 : Nat) : Int)) t' (by omega) (by omega) kg
      (tkC_of (fC 2 9 (by omega) (by omega) (by omega)) (by funext q; exact fC 1 q (by omega) (by omega) (by omega)) hC) tR
      ⟨TBo (fC 3 2 (by omega) (by omega) (by omega)) (by funext q; exact fC 4 q (by omega) (by omega) (by omega)) (by funext q; exact fC 5 q (by omega) (by omega) (by omega)) hT.1, TBo (fC 6 2 (by omega) (by omega) (by omega)) (by funext q; exact fC 7 q (by omega) (by omega) (by omega)) (by funext q; exact fC 8 q (by omega) (by omega) (by omega)) hT.2⟩
      (by rw [fC 2 11 (by omega) (by omega) (by omega), h11]) t9 (by rw [up_ne (by omega), up_ne (by omega), q4]) q2
      ⟨fun j hj => by
        by_cases c : j = i
        · subst c
          rw [pu_at, tI.1, tI.2.1, tI.2.2.1, tI.2.2.2]
          refine ⟨by rw [up_ne (by omega), up_ne (by omega), fi], rfl, by omega, ?_⟩
          rw [up_ne (by omega), up_same, up_ne (by omega), up_ne (by omega), up_ne (by omega), up_ne (by omega), up_ne (by omega), up_ne (by omega)]
          exact q6
        · rw [pu_ne c, tj 124 j (by omega) (by omega) (by omega), tj 125 j (by omega) (by omega) (by omega), tj 126 j (by omega) (by omega) (by omega), tj 127 j (by omega) (by omega) (by omega)]
          rw [up_ne (by omega), up_ne (by omega), up_ne (by omega), up_ne (by omega), up_ne (by omega), up_ne (by omega), up_ne (by omega), up_ne (by omega), up_ne (by omega), up_ne (by omega), fj 9 j (by omega) (by omega) (by omega), fj 10 j (by omega) (by omega) (by omega), fj 11 j (by omega) (by omega) (by omega), fj 12 j (by omega) (by omega) (by omega), fj 13 j (by omega) (by omega) (by omega)]
          exact hI.1 j (by omega), fun j hj => by
        by_cases c : j + 1 = i
        · rw [pu_ne (by omega), pu_eq c]
          exact hlk j (by omega)
        · rw [pu_ne (by omega), pu_ne c]
          exact hI.2 j (by omega)⟩
      (fun j hj => by
        by_cases c : j = i
        · rw [pu_eq c]; omega
        · rw [pu_ne c]
          have := hlk j (by omega)
          omega)
    exact ⟨N, P', sF, tF, by rw [tks_nx C0]; exact f1, mtz_go R0 f2, f3, by rw [f4, q5]; exact mtk_ne (by omega) (by omega), by rw [f5, fC 2 9 (by omega) (by omega) (by omega)]⟩
/-- a text is taken apart -/
theorem scan_ok {ch : Int} {s t : iS} (hch : b01 ch) (hn : n ≤ 4000) (h1 : ∀ i, i < n → s 1 i = F i) (hb : BY (s 1)) (hF : BY F) (hT : KWT s) (hR : tkR F n t) : ∃ N P s' t', tok_scan (n : Int) ch s = some (0, s') ∧ m_tokenize (if ch = 0 then 1000 else 2000) ch t = some (0, t') ∧ TKR ch F n N P s' t' ∧ t' 121 10 = 0 ∧ s' 2 9 = (n : Int) := by
  obtain ⟨R, hR', hRe⟩ : ∃ R : Nat, R = (if ch = 0 then 1000 else 2000) ∧ (if ch = 0 then (1000 : Int) else 2000) = (R : Int) := by
    by_cases c : ch = 0
    · exact ⟨1000, by rw [if_pos c], by rw [if_pos c]; rfl⟩
    · exact ⟨2000, by rw [if_neg c], by rw [if_neg c]; rfl⟩
  have s11 : up (up (up (up s 2 9 (n : Int)) 2 11 ch) 2 10 0) 2 8 0 2 11 = ch := by rw [up_ne (by omega), up_ne (by omega), up_same]
  have fr : ∀ c q, c ≠ 2 → up (up (up (up s 2 9 (n : Int)) 2 11 ch) 2 10 0) 2 8 0 c q = s c q := fun c q z => by rw [up_ne (by omega), up_ne (by omega), up_ne (by omega), up_ne (by omega)]
  have eC : tok_scan (n : Int) ch s = tok_scan_51 (R : Int) 3 ((0 : Nat) : Int) (up (up (up (up s 2 9 (n : Int)) 2 11 ch) 2 10 0) 2 8 0) := by
    unfold tok_scan tok_scan_44
    rw [min_ok ⟨by omega, by omega⟩ (by decide), bq, if_neg (by omega), lt_eq, gd_pos hch, lt_eq, lt_eq, lt_eq, s11, gr (by omega), ← hRe]
    by_cases c : ch = 0
    · rw [if_pos c, if_pos c]; rfl
    · rw [if_neg c, if_neg c]; rfl
  have eR : m_tokenize (R : Int) ch t = bd (m_skip ((0 : Nat) : Int) (up (up t 121 9 0) 121 10 0)) (fun r u => m_tokenize_19 (R : Int) ch r 1 u) := by
    unfold m_tokenize
    rw [lt_eq, lt_eq]
    rfl
  rw [hRe, eC, eR]
  obtain ⟨N, P, s', t', f1, f2, f3, f4, f5⟩ := scn_ok (F := F) (n := n) hch hR' (R + 1) 0 0 (fun _ => 0) 3 _ (up (up t 121 9 0) 121 10 0) (by omega) (by omega) (by decide)
    (show tkC F n (up (up (up (up s 2 9 (n : Int)) 2 11 ch) 2 10 0) 2 8 0) from ⟨by rw [up_ne (by omega), up_ne (by omega), up_ne (by omega), up_same], hn, fun i hi => by rw [fr 1 i (by decide)]; exact h1 i hi, fun i => by rw [fr 1 i (by decide)]; exact hb i, hF⟩)
    (tkR_of (by rw [up_ne (by omega), up_ne (by omega)]) (by rw [up_cell (by decide), up_cell (by decide)]) hR)
    ⟨TBo (fr 3 2 (by decide)) (by funext q; exact fr 4 q (by decide)) (by funext q; exact fr 5 q (by decide)) hT.1, TBo (fr 6 2 (by decide)) (by funext q; exact fr 7 q (by decide)) (by funext q; exact fr 8 q (by decide)) hT.2⟩
    s11 (by rw [up_ne (by omega), up_same]; rfl) (by rw [up_ne (by omega), up_same]; rfl) (by omega) ⟨fun j hj => by omega, fun j hj => by omega⟩ (fun j hj => by omega)
  exact ⟨N, P, s', t', f1, f2, f3, by rw [f4, up_same], by rw [f5, up_ne (by omega), up_ne (by omega), up_ne (by omega), up_same]⟩
end TK4
