/-! chips: tokens and names -/
section CHa
variable {F : Nat → Int} {n N : Nat} {P : Nat → Nat} {s0 t0 s t s' t' : iS} {p a b j : Nat}
theorem N2001 (h : TKR 1 F n N P s0 t0) : N ≤ 2001 := by
  have := h.2.2.1
  rw [if_neg (by decide)] at this
  exact this
/-- the tokens of a text of chips, behind the scan -/
def TKH (F : Nat → Int) (n N : Nat) (P : Nat → Nat) (s0 t0 : iS) : Prop := TKR 1 F n N P s0 t0 ∧ tkR F n t0
theorem cH_tk (h : TKH F n N P s0 t0) (hr : SR t0 t) (hj : j < N) (hk : s0 9 j = 3) : ∃ z : Nat, nmT F P t0 j = bs F (P j) z ∧ t 126 j = (z : Int) ∧ t 125 j = (P j : Int) ∧ 1 ≤ z ∧ z ≤ 16 ∧ P j + z ≤ n ∧ n ≤ 4000 ∧ j < 2001 ∧ t 124 j = 1 ∧ ∀ i, i < z → t 123 (P j + i) = F (P j + i) ∧ wb (F (P j + i)) ∧ 0 ≤ F (P j + i) ∧ F (P j + i) < 256 := by
  obtain ⟨h1, h2⟩ := h
  obtain ⟨a1, a2, a3, ⟨z, a4, a5, a6, a7⟩, a8⟩ := tkN h1 hj hk
  obtain ⟨b1, b2, b3, b4, b5⟩ := h2
  have hN := N2001 h1
  have k := tkK h1 hj
  refine ⟨z, by unfold nmT; rw [a4, Int.toNat_natCast], by rw [hr.2.2.2.1]; exact a4, by rw [hr.2.2.1]; exact (tkP h1 hj).2.1, a5, a6, a7, b2, by omega, by rw [hr.2.1]; split at k <;> omega, fun i hi => ⟨by rw [hr.1]; exact b3 _ (by omega), a8 i (by omega), b5 _⟩⟩
theorem lk1c {z : Nat} (ha : t 126 a = (z : Int)) (ha2 : t 125 a = (P a : Int)) (hb2 : t 125 b = (P b : Int)) (hN : a < 2001 ∧ b < 2001 ∧ z ≤ 16 ∧ P a + z ≤ n ∧ P b + z ≤ n ∧ n ≤ 4000) (hF : ∀ i, i < z → t 123 (P a + i) = F (P a + i) ∧ 0 ≤ F (P a + i) ∧ F (P a + i) < 256) (hF2 : ∀ i, i < z → t 123 (P b + i) = F (P b + i) ∧ 0 ≤ F (P b + i) ∧ F (P b + i) < 256) : ∀ k x : Nat, x + k = z → m_like_24 (a : Int) (b : Int) 1 (x : Int) t = some (if bs F (P a + x) k = bs F (P b + x) k then 1 else 0, t)
  | 0, x, h => by
    unfold m_like_24
    rw [lp_end (f := fun l : Int × Int × iS => m_like_24b (a : Int) (b : Int) (l.1) (l.2.1) (l.2.2)) (l := (1, (x : Int), t)) (e := (1, t)) (by
      show m_like_24b (a : Int) (b : Int) 1 (x : Int) t = _
      unfold m_like_24b
      rw [gd_pos (by omega), gr (by omega), Int.toNat_natCast, ha, gr (by omega), if_pos (by omega)])]
    show gd _ _ = _
    rw [gd_pos (Or.inr rfl), if_pos (by rw [bs_nil, bs_nil])]
  | k + 1, x, h => by
    have c1 := hF x (by omega)
    have c2 := hF2 x (by omega)
    have st : m_like_24b (a : Int) (b : Int) 1 (x : Int) t = some (.inl (if F (P a + x) = F (P b + x) then 1 else 0, ((x + 1 : Nat) : Int), t)) := by
      unfold m_like_24b
      rw [gd_pos (by omega), gr (by omega), Int.toNat_natCast, Int.toNat_natCast, ha, gr (by omega), if_neg (by omega), gr (by omega), if_neg (by omega), ha2, hb2, gd_pos (by omega), gd_pos (by omega), gd_pos (by omega), show ((P a : Int) + (x : Int)).toNat = P a + x by omega, show ((P b : Int) + (x : Int)).toNat = P b + x by omega, c1.1, c2.1, gr (by omega), gr (by omega)]
      by_cases c : F (P a + x) = F (P b + x)
      · rw [if_pos c, if_pos c]; rfl
      · rw [if_neg c, if_neg c]; rfl
    have e1 : m_like_24 (a : Int) (b : Int) 1 (x : Int) t = m_like_24 (a : Int) (b : Int) (if F (P a + x) = F (P b + x) then 1 else 0) ((x + 1 : Nat) : Int) t := by
      unfold m_like_24
      rw [lp_next (f := fun l : Int × Int × iS => m_like_24b (a : Int) (b : Int) (l.1) (l.2.1) (l.2.2)) (l := (1, (x : Int), t)) st]
    rw [e1, bs_cons, bs_cons]
    by_cases c : F (P a + x) = F (P b + x)
    · rw [if_pos c, lk1c ha ha2 hb2 hN hF hF2 k (x + 1) (by omega), show P a + (x + 1) = P a + x + 1 by omega, show P b + (x + 1) = P b + x + 1 by omega]
      by_cases d : bs F (P a + x + 1) k = bs F (P b + x + 1) k
      · rw [if_pos d, if_pos (by rw [c, d])]
      · rw [if_neg d, if_neg (fun e => d (List.cons.inj e).2)]
    · rw [if_neg c, lk0 (z := z) (by omega) (by rw [Int.toNat_natCast]; exact ha) (by omega) (by omega), if_neg (fun e => c (List.cons.inj e).1)]
/-- two names are alike -/
theorem cH_like (h : TKH F n N P s0 t0) (hr : SR t0 t) (ha : a < N ∧ s0 9 a = 3) (hb : b < N ∧ s0 9 b = 3) : m_like (a : Int) (b : Int) t = some (if nmT F P t0 a = nmT F P t0 b then 1 else 0, t) := by
  obtain ⟨z, a1, a2, a3, a4, a5, a6, a7, a8, a9, a10⟩ := cH_tk h hr ha.1 ha.2
  obtain ⟨y, b1, b2, b3, b4, b5, b6, b7, b8, b9, b10⟩ := cH_tk h hr hb.1 hb.2
  unfold m_like
  rw [gd_pos (by omega), gd_pos (by omega), Int.toNat_natCast, Int.toNat_natCast, a2, b2, gr (by omega), gr (by omega), a1, b1]
  unfold m_like_20
  by_cases c : z = y
  · subst c
    rw [if_pos rfl]
    have := lk1c (F := F) (P := P) (t := t) (n := n) (a := a) (b := b) a2 a3 b3 ⟨by omega, by omega, by omega, a6, b6, a7⟩ (fun i hi => ⟨(a10 i hi).1, (a10 i hi).2.2⟩) (fun i hi => ⟨(b10 i hi).1, (b10 i hi).2.2⟩) z 0 (by omega)
    exact this
  · rw [if_neg (by omega), lk0 (z := z) (by omega) (by rw [Int.toNat_natCast]; exact a2) (by omega) (by omega), if_neg (fun e => c (by
      have := congrArg List.length e
      rw [bs_len, bs_len] at this
      exact this))]
/-- a name is put behind others -/
theorem cAdc {c a b' M : Nat} {tab : List (List Int)} (h : TKR 1 F n N P s0 t0) (hs : SC s0 s) (hN : j < N) (hk : s0 9 j = 3) (ht : TB c a b' tab s) (hM : M < 1000000) (hm : tab.length < M) (hca : c ≠ a ∧ c ≠ b' ∧ a ≠ b') : tok_addTo c a b' M (j : Int) s = some (0, nmad s c a b' tab.length (nmT F P t0 j)) ∧ TB c a b' (tab ++ [nmT F P t0 j]) (nmad s c a b' tab.length (nmT F P t0 j)) := by
  have hN2 := N2001 h
  have h8 := h.2.2.2.1
  obtain ⟨w1, w2, w3, _⟩ := tkN h hN hk
  have e8 : s 2 8 = (N : Int) := by rw [hs.2.2.2.2.2.2.1]; exact h8
  have e12 : s 12 j = wH (nmT F P t0 j) := by rw [hs.2.2.2.2.1]; exact w2
  have e13 : s 13 j = wL (nmT F P t0 j) := by rw [hs.2.2.2.2.2.1]; exact w3
  have t1 := ht.1
  refine ⟨?_, ?_, fun i hi => ?_⟩
  · unfold tok_addTo nam_add nmad
    have x1 : up s a tab.length (wH (nmT F P t0 j)) c 2 = (tab.length : Int) := by rw [up_ne (by omega)]; exact t1
    have x2 : up (up s a tab.length (wH (nmT F P t0 j))) b' tab.length (wL (nmT F P t0 j)) c 2 = (tab.length : Int) := by rw [up_ne (by omega)]; exact x1
    rw [gr (by omega), if_neg (by omega), e8, gr (by omega), if_neg (by omega), gd_pos (by omega), Int.toNat_natCast, e12, e13, t1, gr (by omega), gr (by omega), if_neg (by omega), gd_pos (by omega), Int.toNat_natCast, lt_eq, x1, gd_pos (by omega), Int.toNat_natCast, lt_eq, lt_eq, x2, bq]
    rfl
  · unfold nmad
    rw [up_same, List.length_append]
    rfl
  · rw [List.length_append, List.length_singleton] at hi
    by_cases k : i < tab.length
    · rw [gd_app k, nmad_ne (by omega) (by omega) (by omega), nmad_ne (by omega) (by omega) (by omega)]
      exact ht.2 i k
    · have e : i = tab.length := by omega
      rw [e, gd_end]
      unfold nmad
      exact ⟨by rw [up_ne (by omega), up_ne (by omega), up_same], by rw [up_ne (by omega), up_same]⟩
/-- both readers at token p; both behind a fault f at token q -/
def LVh (N : Nat) (s0 t0 : iS) (p : Nat) (s t : iS) : Prop := SC s0 s ∧ SR t0 t ∧ s 2 12 = (p : Int) ∧ t 121 10 = (p : Int) ∧ p < N ∧ (s 2 13 = 0 ∧ s 2 14 = -1) ∧ t 121 11 = 0
def DCh (N : Nat) (s0 : iS) (f : Int) (q : Nat) (s : iS) : Prop := SC s0 s ∧ s 2 12 = (N : Int) ∧ s 2 13 = f ∧ s 2 14 = (q : Int)
def DRh (N : Nat) (P : Nat → Nat) (t0 : iS) (f : Int) (q : Nat) (t : iS) : Prop := SR t0 t ∧ t 121 11 = f ∧ t 121 12 = (P q : Int) ∧ ∃ p : Nat, p < N ∧ t 121 10 = (p : Int)
theorem LVh_of (h : LVh N s0 t0 p s t) (hs : ∀ c k, c ≤ 13 ∨ c = 42 ∨ c = 43 → s' c k = s c k) (ht : ∀ c k, c = 121 ∧ (k = 3 ∨ k = 10 ∨ k = 11) ∨ 122 < c ∧ c < 128 → t' c k = t c k) : LVh N s0 t0 p s' t' := by
  obtain ⟨⟨a1, a2, a3, a4, a5, a6, a7, a8, a9, a10⟩, ⟨b1, b2, b3, b4, b5, b6⟩, h3, h4, h5, h6, h7⟩ := h
  have r : ∀ c, c ≤ 13 ∨ c = 42 ∨ c = 43 → s' c = s c := fun c z => funext fun k => hs c k z
  have r' : ∀ c, 122 < c ∧ c < 128 → t' c = t c := fun c z => funext fun k => ht c k (Or.inr z)
  exact ⟨⟨by rw [r 1 (by omega)]; exact a1, by rw [r 9 (by omega)]; exact a2, by rw [r 10 (by omega)]; exact a3, by rw [r 11 (by omega)]; exact a4, by rw [r 12 (by omega)]; exact a5, by rw [r 13 (by omega)]; exact a6, by rw [r 2 (by omega)]; exact a7, by rw [r 2 (by omega)]; exact a8, by rw [r 42 (by omega)]; exact a9, by rw [r 43 (by omega)]; exact a10⟩, ⟨by rw [r' 123 (by omega)]; exact b1, by rw [r' 124 (by omega)]; exact b2, by rw [r' 125 (by omega)]; exact b3, by rw [r' 126 (by omega)]; exact b4, by rw [r' 127 (by omega)]; exact b5, by rw [ht 121 3 (by omega)]; exact b6⟩, by rw [r 2 (by omega)]; exact h3, by rw [ht 121 10 (by omega)]; exact h4, h5, by rw [r 2 (by omega)]; exact h6, by rw [ht 121 11 (by omega)]; exact h7⟩
theorem LVh_nx (h : LVh N s0 t0 p s t) (hN : p + 1 < N) : LVh N s0 t0 (p + 1) (up s 2 12 ((p + 1 : Nat) : Int)) (up t 121 10 ((p + 1 : Nat) : Int)) := by
  obtain ⟨⟨a1, a2, a3, a4, a5, a6, a7, a8, a9, a10⟩, ⟨b1, b2, b3, b4, b5, b6⟩, h3, h4, h5, h6, h7⟩ := h
  have r : ∀ c, c ≠ 2 → up s 2 12 ((p + 1 : Nat) : Int) c = s c := fun c z => funext fun k => up_ne (by omega)
  have r' : ∀ c, c ≠ 121 → up t 121 10 ((p + 1 : Nat) : Int) c = t c := fun c z => funext fun k => up_ne (by omega)
  exact ⟨⟨by rw [r 1 (by omega)]; exact a1, by rw [r 9 (by omega)]; exact a2, by rw [r 10 (by omega)]; exact a3, by rw [r 11 (by omega)]; exact a4, by rw [r 12 (by omega)]; exact a5, by rw [r 13 (by omega)]; exact a6, by rw [up_ne (by omega)]; exact a7, by rw [up_ne (by omega)]; exact a8, by rw [r 42 (by omega)]; exact a9, by rw [r 43 (by omega)]; exact a10⟩, ⟨by rw [r' 123 (by omega)]; exact b1, by rw [r' 124 (by omega)]; exact b2, by rw [r' 125 (by omega)]; exact b3, by rw [r' 126 (by omega)]; exact b4, by rw [r' 127 (by omega)]; exact b5, by rw [up_ne (by omega)]; exact b6⟩, up_same _ _ _ _, up_same _ _ _ _, hN, ⟨by rw [up_ne (by omega)]; exact h6.1, by rw [up_ne (by omega)]; exact h6.2⟩, by rw [up_ne (by omega)]; exact h7⟩
theorem SC_st {f : Int} {q : Nat} (h : SC s0 s) : SC s0 (stp s f q N) := by
  obtain ⟨a1, a2, a3, a4, a5, a6, a7, a8, a9, a10⟩ := h
  have r : ∀ c, c ≠ 2 → stp s f q N c = s c := fun c z => funext fun k => by unfold stp; rw [up_ne (by omega), up_ne (by omega), up_ne (by omega)]
  have r2 : ∀ k, k ≠ 12 → k ≠ 13 → k ≠ 14 → stp s f q N 2 k = s 2 k := fun k z1 z2 z3 => by unfold stp; rw [up_ne (by omega), up_ne (by omega), up_ne (by omega)]
  exact ⟨by rw [r 1 (by omega)]; exact a1, by rw [r 9 (by omega)]; exact a2, by rw [r 10 (by omega)]; exact a3, by rw [r 11 (by omega)]; exact a4, by rw [r 12 (by omega)]; exact a5, by rw [r 13 (by omega)]; exact a6, by rw [r2 8 (by omega) (by omega) (by omega)]; exact a7, by rw [r2 9 (by omega) (by omega) (by omega)]; exact a8, by rw [r 42 (by omega)]; exact a9, by rw [r 43 (by omega)]; exact a10⟩
theorem DCh_st {f : Int} {q : Nat} (h : SC s0 s) : DCh N s0 f q (stp s f q N) := ⟨SC_st h, up_same _ _ _ _, by unfold stp; rw [up_ne (by omega), up_ne (by omega), up_same], by unfold stp; rw [up_ne (by omega), up_same]⟩
theorem DRh_fl {f : Int} {q : Nat} (h : SR t0 t) (hp : t 121 10 = (p : Int)) (hN : p < N) : DRh N P t0 f q (flt t f P q) := by
  obtain ⟨b1, b2, b3, b4, b5, b6⟩ := h
  have r' : ∀ c, c ≠ 121 → flt t f P q c = t c := fun c z => funext fun k => by unfold flt; rw [up_ne (by omega), up_ne (by omega)]
  have r2 : ∀ k, k ≠ 11 → k ≠ 12 → flt t f P q 121 k = t 121 k := fun k z1 z2 => by unfold flt; rw [up_ne (by omega), up_ne (by omega)]
  exact ⟨⟨by rw [r' 123 (by omega)]; exact b1, by rw [r' 124 (by omega)]; exact b2, by rw [r' 125 (by omega)]; exact b3, by rw [r' 126 (by omega)]; exact b4, by rw [r' 127 (by omega)]; exact b5, by rw [r2 3 (by omega) (by omega)]; exact b6⟩, by unfold flt; rw [up_ne (by omega), up_same], by unfold flt; rw [up_same], p, hN, by rw [r2 10 (by omega) (by omega)]; exact hp⟩
/-- the last token is none of those that are asked for -/
theorem nlast (h : TKR 1 F n N P s0 t0) (hp : p < N) (hk : 3 ≤ s0 9 p) : p + 1 < N := by
  by_cases c : p + 1 < N
  · exact c
  · exfalso
    have e : p = N - 1 := by omega
    rw [e] at hk
    obtain ⟨-, -, -, -, -, -, -, -, h9⟩ := h
    omega
/-- what both ask for: a sign -/
theorem bSg (h : TKR 1 F n N P s0 t0) (hl : LVh N s0 t0 p s t) {c : Int} (hc : 33 ≤ c ∧ c ≤ 126) : (s0 9 p = c ∧ tok_expect c s = some (0, up s 2 12 ((p + 1 : Nat) : Int)) ∧ m_needSign c t = some (0, up t 121 10 ((p + 1 : Nat) : Int)) ∧ LVh N s0 t0 (p + 1) (up s 2 12 ((p + 1 : Nat) : Int)) (up t 121 10 ((p + 1 : Nat) : Int))) ∨ (∃ f, (0 < f ∧ f < 3) ∧ tok_expect c s = some (0, stp s f p N) ∧ m_needSign c t = some (0, flt t f P p) ∧ s0 9 p ≠ c) := by
  obtain ⟨a1, a2, a3, a4, a5, a6, a7⟩ := hl
  by_cases q : s0 9 p = c
  · refine Or.inl ⟨q, cEx h a1 a3 a5 (by omega) q, ?_, LVh_nx ⟨a1, a2, a3, a4, a5, a6, a7⟩ (nlast h a5 (by omega))⟩
    rw [rNs h a2 a7 a4 a5 hc, if_pos q]
  · refine Or.inr ⟨if s0 9 p = 2 then 2 else 1, by split <;> omega, cEx0 h a1 a6.1 a3 a5 (by omega) q, ?_, q⟩
    rw [rNs h a2 a7 a4 a5 hc, if_neg q]
/-- a word -/
theorem bWd (h : TKR 1 F n N P s0 t0) (hl : LVh N s0 t0 p s t) {w : Int} (hw : 0 ≤ w ∧ w < 6) : (s0 9 p = w + 300 ∧ tok_expect (w + 300) s = some (0, up s 2 12 ((p + 1 : Nat) : Int)) ∧ m_needWord w t = some (0, up t 121 10 ((p + 1 : Nat) : Int)) ∧ LVh N s0 t0 (p + 1) (up s 2 12 ((p + 1 : Nat) : Int)) (up t 121 10 ((p + 1 : Nat) : Int))) ∨ (∃ f, (0 < f ∧ f < 3) ∧ tok_expect (w + 300) s = some (0, stp s f p N) ∧ m_needWord w t = some (0, flt t f P p)) := by
  obtain ⟨a1, a2, a3, a4, a5, a6, a7⟩ := hl
  by_cases q : s0 9 p = w + 300
  · refine Or.inl ⟨q, cEx h a1 a3 a5 (by omega) q, ?_, LVh_nx ⟨a1, a2, a3, a4, a5, a6, a7⟩ (nlast h a5 (by omega))⟩
    unfold m_needWord
    rw [rWc h a2 a4 a5 hw, bq, if_pos q, gr (by omega), if_neg (by omega), rGo a7 a4, bq]
  · refine Or.inr ⟨if s0 9 p = 2 then 2 else 1, by split <;> omega, cEx0 h a1 a6.1 a3 a5 (by omega) q, ?_⟩
    unfold m_needWord
    rw [rWc h a2 a4 a5 hw, bq, if_neg q, gr (by omega), if_pos rfl, rSy h a2 a7 a4 a5, bq]
theorem rNwD (h : TKR 1 F n N P s0 t0) (hr : SR t0 t) (hf : 0 < t 121 11 ∧ t 121 11 < 100) (hp : t 121 10 = (p : Int)) (hN : p < N) {w : Int} (hw : 0 ≤ w ∧ w < 6) : m_needWord w t = some (0, t) := by
  unfold m_needWord
  rw [rWc h hr hp hN hw, bq]
  by_cases q : s0 9 p = w + 300
  · rw [if_pos q, gr (by omega), if_neg (by omega), rGoD hf, bq]
  · rw [if_neg q, gr (by omega), if_pos rfl, rSyD h hr hf hp hN, bq]
/-- a number -/
theorem bNm (h : TKR 1 F n N P s0 t0) (hl : LVh N s0 t0 p s t) : (s0 9 p = 4 ∧ tok_expect 4 s = some (0, up s 2 12 ((p + 1 : Nat) : Int)) ∧ m_needNumber t = some ((p : Int), up t 121 10 ((p + 1 : Nat) : Int)) ∧ LVh N s0 t0 (p + 1) (up s 2 12 ((p + 1 : Nat) : Int)) (up t 121 10 ((p + 1 : Nat) : Int))) ∨ (∃ f, (0 < f ∧ f < 3) ∧ tok_expect 4 s = some (0, stp s f p N) ∧ m_needNumber t = some ((p : Int) - 1, flt t f P p)) := by
  obtain ⟨a1, a2, a3, a4, a5, a6, a7⟩ := hl
  have k := tkK h a5
  have hN := N2001 h
  by_cases q : s0 9 p = 4
  · refine Or.inl ⟨q, cEx h a1 a3 a5 (by omega) q, ?_, LVh_nx ⟨a1, a2, a3, a4, a5, a6, a7⟩ (nlast h a5 (by omega))⟩
    unfold m_needNumber
    rw [a4, gd_pos (by omega), Int.toNat_natCast, a2.2.1, gr (by split at k <;> omega), if_pos (by split at k <;> omega), rGo a7 a4, bq, up_same, show ((p + 1 : Nat) : Int) - 1 = (p : Int) by omega]
  · refine Or.inr ⟨if s0 9 p = 2 then 2 else 1, by split <;> omega, cEx0 h a1 a6.1 a3 a5 (by omega) q, ?_⟩
    unfold m_needNumber
    have e : ∀ f, flt t f P p 121 10 = (p : Int) := fun f => by unfold flt; rw [up_ne (by omega), up_ne (by omega)]; exact a4
    rw [a4, gd_pos (by omega), Int.toNat_natCast, a2.2.1, gr (by split at k <;> omega), if_neg (by split at k <;> omega), rSy h a2 a7 a4 a5, bq, e]
end CHa
