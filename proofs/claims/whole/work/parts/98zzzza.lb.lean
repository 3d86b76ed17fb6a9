/-! the system's subs: the relation; words and errors -/
/-- the words of both memories, and the error -/
def MW (s t : iS) : Prop := (∀ i : Nat, i < 12288 → s 45 i = t 175 (2048 + i)) ∧ (∀ k : Nat, k < 128 → s 45 (12288 + k) = t 175 (16384 + k)) ∧ (∀ i, -32768 ≤ s 45 i ∧ s 45 i < 32768) ∧ s 44 6 = t 121 100 ∧ rg (s 44 6)
/-- blocks in order, from a on -/
def srt : Nat → List (Nat × Nat) → Prop
  | a, [] => a ≤ 14336
  | a, b :: r => a ≤ b.1 ∧ 1 ≤ b.2 ∧ srt (b.1 + b.2) r
def sml (l : List (Nat × Nat)) : Nat := (l.map Prod.snd).sum
/-- the class keeps its blocks in order, the reference as they come -/
def BK (s t : iS) : Prop := ∃ B D : List (Nat × Nat), B.Perm D ∧ s 44 3 = (B.length : Int) ∧ t 121 81 = (D.length : Int) ∧ B.length ≤ 100 ∧ (∀ i, i < B.length → s 46 i = ((B.getD i (0, 0)).1 : Int) ∧ s 47 i = ((B.getD i (0, 0)).1 : Int) + ((B.getD i (0, 0)).2 : Int)) ∧ (∀ i, i < D.length → t 176 i = ((D.getD i (0, 0)).1 : Int) ∧ t 177 i = ((D.getD i (0, 0)).2 : Int)) ∧ srt 2048 B ∧ s 44 4 = (sml B : Int)
def OU (s t : iS) : Prop := ROv (s 48 3) (s 48 4) (t 121 106) (t 121 107) (s 49) (t 187)
def KY (s t : iS) : Prop := s 48 5 = t 121 102 ∧ (0 ≤ s 48 5 ∧ s 48 5 ≤ 200) ∧ s 48 6 = t 121 103 ∧ (0 ≤ s 48 6 ∧ s 48 6 ≤ s 48 5) ∧ ∀ i : Nat, (i : Int) < s 48 5 → s 50 i = t 186 i ∧ 0 ≤ s 50 i ∧ s 50 i < 256
def CO (s t : iS) : Prop := s 48 8 = 0 ∧ t 121 108 = 1 ∨ s 48 8 = 1 ∧ t 121 108 = 0
def LB (s t : iS) : Prop := MW s t ∧ BK s t ∧ OU s t ∧ KY s t ∧ CO s t
/-- running; failed -/
def gO (s t : iS) : Prop := s 44 5 = 0 ∧ t 121 99 = -1
def kO (s t : iS) : Prop := s 44 5 = 1 ∧ t 121 99 = 3
abbrev w16 (x : Int) : Prop := -32768 ≤ x ∧ x < 32768
abbrev r32 (x : Int) : Prop := -2147483648 ≤ x ∧ x ≤ 2147483647
section LBa
variable {s s' t t' : iS} {a b v x : Int}
theorem MW_of (h : MW s t) (h1 : s' 45 = s 45) (h2 : t' 175 = t 175) (h3 : s' 44 6 = s 44 6) (h4 : t' 121 100 = t 121 100) : MW s' t' := by
  unfold MW at h ⊢
  rw [h1, h2, h3, h4]
  exact h
theorem BK_of (h : BK s t) (h1 : s' 44 3 = s 44 3) (h2 : t' 121 81 = t 121 81) (h3 : s' 46 = s 46) (h4 : s' 47 = s 47) (h5 : t' 176 = t 176) (h6 : t' 177 = t 177) (h7 : s' 44 4 = s 44 4) : BK s' t' := by
  unfold BK at h ⊢
  rw [h1, h2, h3, h4, h5, h6, h7]
  exact h
theorem OU_of (h : OU s t) (h1 : s' 48 3 = s 48 3) (h2 : s' 48 4 = s 48 4) (h3 : t' 121 106 = t 121 106) (h4 : t' 121 107 = t 121 107) (h5 : s' 49 = s 49) (h6 : t' 187 = t 187) : OU s' t' := by
  unfold OU at h ⊢
  rw [h1, h2, h3, h4, h5, h6]
  exact h
theorem KY_of (h : KY s t) (h1 : s' 48 5 = s 48 5) (h2 : s' 48 6 = s 48 6) (h3 : t' 121 102 = t 121 102) (h4 : t' 121 103 = t 121 103) (h5 : s' 50 = s 50) (h6 : t' 186 = t 186) : KY s' t' := by
  unfold KY at h ⊢
  rw [h1, h2, h3, h4, h5, h6]
  exact h
theorem CO_of (h : CO s t) (h1 : s' 48 8 = s 48 8) (h2 : t' 121 108 = t 121 108) : CO s' t' := by
  unfold CO at h ⊢
  rw [h1, h2]
  exact h
/-- the class's cells of the subs, and the reference's -/
theorem LB_of (h : LB s t) (hs : ∀ c k, (c = 44 ∧ (k = 3 ∨ k = 4 ∨ k = 6) ∨ 45 ≤ c ∧ c ≤ 47 ∨ c = 48 ∧ (k = 3 ∨ k = 4 ∨ k = 5 ∨ k = 6 ∨ k = 8) ∨ c = 49 ∨ c = 50) → s' c k = s c k) (ht : ∀ c k, (c = 121 ∧ (k = 81 ∨ k = 100 ∨ k = 102 ∨ k = 103 ∨ k = 106 ∨ k = 107 ∨ k = 108) ∨ 175 ≤ c ∧ c ≤ 177 ∨ c = 186 ∨ c = 187) → t' c k = t c k) : LB s' t' := by
  obtain ⟨h1, h2, h3, h4, h5⟩ := h
  refine ⟨MW_of h1 (funext fun k => hs 45 k (by omega)) (funext fun k => ht 175 k (by omega)) (hs 44 6 (by omega)) (ht 121 100 (by omega)), BK_of h2 (hs 44 3 (by omega)) (ht 121 81 (by omega)) (funext fun k => hs 46 k (by omega)) (funext fun k => hs 47 k (by omega)) (funext fun k => ht 176 k (by omega)) (funext fun k => ht 177 k (by omega)) (hs 44 4 (by omega)), OU_of h3 (hs 48 3 (by omega)) (hs 48 4 (by omega)) (ht 121 106 (by omega)) (ht 121 107 (by omega)) (funext fun k => hs 49 k (by omega)) (funext fun k => ht 187 k (by omega)), KY_of h4 (hs 48 5 (by omega)) (hs 48 6 (by omega)) (ht 121 102 (by omega)) (ht 121 103 (by omega)) (funext fun k => hs 50 k (by omega)) (funext fun k => ht 186 k (by omega)), CO_of h5 (hs 48 8 (by omega)) (ht 121 108 (by omega))⟩
/-- both answer: they run on with answers in V, or both have failed -/
def Ov (V : Int → Int → Prop) (x y : Option (Int × iS)) : Prop := (∃ r r' s' t', x = some (r, s') ∧ y = some (r', t') ∧ V r r' ∧ LB s' t' ∧ gO s' t') ∨ (∃ r r' s' t', x = some (r, s') ∧ y = some (r', t') ∧ (w16 r ∧ r32 r') ∧ LB s' t' ∧ kO s' t')
/-- behind a failure nothing is changed -/
def DCl (f : iS → Option (Int × iS)) : Prop := ∀ s t, LB s t → kO s t → ∃ r, f s = some (r, s) ∧ w16 r
def DRf (g : iS → Option (Int × iS)) : Prop := ∀ s t, LB s t → kO s t → ∃ r, g t = some (r, t) ∧ r32 r
theorem Ov_bd {V V' : Int → Int → Prop} {X Y : Option (Int × iS)} {f g : Int → iS → Option (Int × iS)} (h : Ov V X Y) (hl : ∀ r r' s t, V r r' → LB s t → gO s t → Ov V' (f r s) (g r' t)) (hd : ∀ r, w16 r → DCl (f r)) (hd' : ∀ r, r32 r → DRf (g r)) : Ov V' (bd X f) (bd Y g) := by
  rcases h with ⟨r, r', s', t', e1, e2, e3, e4, e5⟩ | ⟨r, r', s', t', e1, e2, e3, e4, e5⟩
  · rw [e1, e2, bq, bq]
    exact hl r r' s' t' e3 e4 e5
  · rw [e1, e2, bq, bq]
    obtain ⟨r1, a1, a2⟩ := hd r e3.1 s' t' e4 e5
    obtain ⟨r2, b1, b2⟩ := hd' r' e3.2 s' t' e4 e5
    exact Or.inr ⟨r1, r2, s', t', a1, b1, ⟨a2, b2⟩, e4, e5⟩
theorem Ov_mono {V V' : Int → Int → Prop} {X Y : Option (Int × iS)} (h : Ov V X Y) (hV : ∀ r r', V r r' → V' r r') : Ov V' X Y := by
  rcases h with ⟨r, r', s', t', e1, e2, e3, e4⟩ | h
  · exact Or.inl ⟨r, r', s', t', e1, e2, hV _ _ e3, e4⟩
  · exact Or.inr h
theorem Ov_some {V : Int → Int → Prop} (h : LB s t) (hg : gO s t) (hv : V a b) : Ov V (some (a, s)) (some (b, t)) := Or.inl ⟨a, b, s, t, rfl, rfl, hv, h, hg⟩
theorem DCl_some (h : w16 a) : DCl (fun s => some (a, s)) := fun s t _ _ => ⟨a, rfl, h⟩
theorem DRf_some (h : r32 a) : DRf (fun s => some (a, s)) := fun s t _ _ => ⟨a, rfl, h⟩
theorem DCl_bd {f : iS → Option (Int × iS)} {g : Int → iS → Option (Int × iS)} (h : DCl f) (hg : ∀ r, w16 r → DCl (g r)) : DCl (fun s => bd (f s) g) := fun s t hl hk => by
  obtain ⟨r, e1, e2⟩ := h s t hl hk
  obtain ⟨r2, e3, e4⟩ := hg r e2 s t hl hk
  exact ⟨r2, by show bd (f s) g = _; rw [e1, bq, e3], e4⟩
theorem DRf_bd {f : iS → Option (Int × iS)} {g : Int → iS → Option (Int × iS)} (h : DRf f) (hg : ∀ r, r32 r → DRf (g r)) : DRf (fun s => bd (f s) g) := fun s t hl hk => by
  obtain ⟨r, e1, e2⟩ := h s t hl hk
  obtain ⟨r2, e3, e4⟩ := hg r e2 s t hl hk
  exact ⟨r2, by show bd (f t) g = _; rw [e1, bq, e3], e4⟩
/-- a failure -/
theorem fail_go {V : Int → Int → Prop} (h : LB s t) (hg : gO s t) (hv : w16 v) : Ov V (mem_fail v s) (m_err v t) := by
  refine Or.inr ⟨0, 0, up (up s 44 5 1) 44 6 v, up (up t 121 99 3) 121 100 v, ?_, ?_, ⟨by decide, by decide⟩, ?_, ?_⟩
  · unfold mem_fail
    rw [hg.1, gr (by omega), if_pos rfl, lt_eq, lt_eq]
  · unfold m_err
    rw [hg.2, gr (by omega), if_pos rfl, lt_eq, lt_eq]
  · obtain ⟨⟨m1, m2, m3, m4, m5⟩, h2, h3, h4, h5⟩ := h
    refine ⟨⟨fun i hi => by rw [up_ne (by omega), up_ne (by omega), up_ne (by omega), up_ne (by omega)]; exact m1 i hi, fun i hi => by rw [up_ne (by omega), up_ne (by omega), up_ne (by omega), up_ne (by omega)]; exact m2 i hi, fun i => by rw [up_ne (by omega), up_ne (by omega)]; exact m3 i, by rw [up_same, up_same], by rw [up_same]; exact ⟨by omega, by omega⟩⟩, BK_of h2 (by rw [up_ne (by omega), up_ne (by omega)]) (by rw [up_ne (by omega), up_ne (by omega)]) (by rw [up_cell (by decide), up_cell (by decide)]) (by rw [up_cell (by decide), up_cell (by decide)]) (by rw [up_cell (by decide), up_cell (by decide)]) (by rw [up_cell (by decide), up_cell (by decide)]) (by rw [up_ne (by omega), up_ne (by omega)]), OU_of h3 (by rw [up_ne (by omega), up_ne (by omega)]) (by rw [up_ne (by omega), up_ne (by omega)]) (by rw [up_ne (by omega), up_ne (by omega)]) (by rw [up_ne (by omega), up_ne (by omega)]) (by rw [up_cell (by decide), up_cell (by decide)]) (by rw [up_cell (by decide), up_cell (by decide)]), KY_of h4 (by rw [up_ne (by omega), up_ne (by omega)]) (by rw [up_ne (by omega), up_ne (by omega)]) (by rw [up_ne (by omega), up_ne (by omega)]) (by rw [up_ne (by omega), up_ne (by omega)]) (by rw [up_cell (by decide), up_cell (by decide)]) (by rw [up_cell (by decide), up_cell (by decide)]), CO_of h5 (by rw [up_ne (by omega), up_ne (by omega)]) (by rw [up_ne (by omega), up_ne (by omega)])⟩
  · exact ⟨by rw [up_ne (by omega), up_same], by rw [up_ne (by omega), up_same]⟩
theorem fail_dc : DCl (mem_fail v) := fun s t _ hk => ⟨0, by unfold mem_fail; rw [hk.1, gr (by omega), if_neg (by omega)], by decide⟩
theorem err_dr : DRf (m_err v) := fun s t _ hk => ⟨0, by unfold m_err; rw [hk.2, gr (by omega), if_neg (by omega)], by decide⟩
/-- where a word stands -/
def isP (v : Int) : Prop := 2048 ≤ v ∧ v < 14336 ∨ 16384 ≤ v ∧ v < 16512
def ixA (v : Int) : Int := if v < 14336 then v - 2048 else v - 16384 + 12288
theorem idx_y (h : isP v) : mem_indexOf v s = some (ixA v, s) := by
  unfold isP at h
  unfold mem_indexOf mem_indexOf_20 ixA
  rw [gr (by omega), if_neg (by omega)]
  by_cases c : v < 14336
  · rw [if_neg (by omega), if_pos c]
  · rw [if_pos (by omega), gr (by omega), if_neg (by omega), if_neg (by omega), if_neg c]
theorem idx_n (hv : w16 v) (h : ¬ isP v) : mem_indexOf v s = some (-1, s) := by
  unfold isP at h
  unfold mem_indexOf mem_indexOf_20
  rw [gr (by omega)]
  by_cases c : v < 2048
  · rw [if_pos c, gr (by omega), if_pos (by omega)]
  · rw [if_neg c, if_pos (by omega), gr (by omega)]
    by_cases c2 : v < 16384
    · rw [if_pos c2]
    · rw [if_neg c2, if_pos (by omega)]
theorem isp_y (h : isP v) : m_isPlace v t = some (1, t) := by
  unfold isP at h
  unfold m_isPlace m_isPlace_14
  rw [gr (by omega), if_neg (by omega)]
  by_cases c : v ≤ 14335
  · rw [if_pos c]
  · rw [if_neg c, gr (by omega), if_neg (by omega), if_neg (by omega)]
theorem isp_n (hv : w16 v) (h : ¬ isP v) : m_isPlace v t = some (0, t) := by
  unfold isP at h
  unfold m_isPlace m_isPlace_14
  rw [gr (by omega)]
  by_cases c : v < 2048
  · rw [if_pos c, gr (by omega), if_pos (by omega)]
  · rw [if_neg c, if_neg (by omega), gr (by omega)]
    by_cases c2 : v < 16384
    · rw [if_pos c2]
    · rw [if_neg c2, if_pos (by omega)]
theorem ixA_rg (h : isP v) : 0 ≤ ixA v ∧ ixA v < 12416 := by
  unfold isP at h
  unfold ixA
  split <;> omega
theorem MW_at (h : MW s t) (hv : isP v) : s 45 (ixA v).toNat = t 175 v.toNat := by
  obtain ⟨m1, m2, _⟩ := h
  unfold isP at hv
  unfold ixA
  split
  · have := m1 (v - 2048).toNat (by omega)
    rw [this]
    congr 1
    omega
  · have := m2 (v - 16384).toNat (by omega)
    rw [show (v - 16384 + 12288).toNat = 12288 + (v - 16384).toNat by omega, this]
    congr 1
    omega
theorem rd_y (h : LB s t) (hv : isP (i_s a)) : mem_read a s = some (t 175 (i_s a).toNat, s) ∧ m_read a t = some (t 175 (i_s a).toNat, t) ∧ w16 (t 175 (i_s a).toNat) := by
  have hi := ixA_rg hv
  have e := MW_at h.1 hv
  refine ⟨?_, ?_, by rw [← e]; exact h.1.2.2.1 _⟩
  · unfold mem_read
    rw [idx_y hv, bq, gr (by omega), if_neg (by omega), gd_pos (by omega), e]
  · have hv' := hv
    unfold isP at hv'
    unfold m_read m_word16 m_read_18
    rw [bq, isp_y hv, bq, gr (by omega), if_neg (by omega), isp_y hv, bq, gr (by omega), if_neg (by omega), gd_pos (by omega)]
/-- a word is read -/
theorem rd_ok1 (h : LB s t) (hg : gO s t) : Ov (fun r r' => r = r' ∧ w16 r) (mem_read a s) (m_read a t) := by
  by_cases hv : isP (i_s a)
  · obtain ⟨e1, e2, e3⟩ := rd_y h hv
    exact Or.inl ⟨_, _, s, t, e1, e2, ⟨rfl, e3⟩, h, hg⟩
  · have F := fail_go (V := fun r r' => r = r' ∧ w16 r) (v := 20) h hg (by decide)
    rcases F with ⟨r, r', s', t', e1, e2, e3, e4, e5⟩ | ⟨r, r', s', t', e1, e2, e3, e4, e5⟩
    · have := e5.1
      unfold mem_fail at e1
      rw [hg.1, gr (by omega), if_pos rfl, lt_eq, lt_eq] at e1
      have q : up (up s 44 5 1) 44 6 20 = s' := congrArg Prod.snd (Option.some.inj e1)
      rw [← q, up_ne (by omega), up_same] at this
      omega
    · refine Or.inr ⟨r, 0, s', t', ?_, ?_, ⟨e3.1, by decide⟩, e4, e5⟩
      · unfold mem_read
        rw [idx_n (i_s_rg a) hv, bq, gr (by omega), if_pos rfl, e1, bq]
      · unfold m_read m_word16 m_read_18
        rw [bq, isp_n (i_s_rg a) hv, bq, gr (by omega), if_pos rfl, e2, bq, isp_n (i_s_rg a) hv, bq, gr (by omega), if_pos rfl]
theorem rd_dc : DCl (mem_read a) := fun s t h hk => by
  by_cases hv : isP (i_s a)
  · obtain ⟨e1, e2, e3⟩ := rd_y h hv
    exact ⟨_, e1, e3⟩
  · refine ⟨0, ?_, by decide⟩
    unfold mem_read mem_fail
    rw [idx_n (i_s_rg a) hv, bq, gr (by omega), if_pos rfl, hk.1, gr (by omega), if_neg (by omega), bq]
theorem rd_dr : DRf (m_read a) := fun s t h hk => by
  by_cases hv : isP (i_s a)
  · obtain ⟨e1, e2, e3⟩ := rd_y h hv
    exact ⟨_, e2, by omega⟩
  · refine ⟨0, ?_, by decide⟩
    unfold m_read m_word16 m_read_18 m_err
    rw [bq, isp_n (i_s_rg a) hv, bq, gr (by omega), if_pos rfl, hk.2, gr (by omega), if_neg (by omega), bq, isp_n (i_s_rg a) hv, bq, gr (by omega), if_pos rfl]
/-- a word is put -/
theorem LB_put (h : LB s t) (hv : isP v) (hx : w16 x) : LB (up s 45 (ixA v).toNat x) (up t 175 v.toNat x) := by
  obtain ⟨⟨m1, m2, m3, m4, m5⟩, h2, h3, h4, h5⟩ := h
  refine ⟨⟨fun i hi => ?_, fun k hk => ?_, fun i => ?_, by rw [up_ne (by omega), up_ne (by omega)]; exact m4, by rw [up_ne (by omega)]; exact m5⟩, BK_of h2 (up_ne (by omega)) (up_ne (by omega)) (up_cell (by decide)) (up_cell (by decide)) (up_cell (by decide)) (up_cell (by decide)) (up_ne (by omega)), OU_of h3 (up_ne (by omega)) (up_ne (by omega)) (up_ne (by omega)) (up_ne (by omega)) (up_cell (by decide)) (up_cell (by decide)), KY_of h4 (up_ne (by omega)) (up_ne (by omega)) (up_ne (by omega)) (up_ne (by omega)) (up_cell (by decide)) (up_cell (by decide)), CO_of h5 (up_ne (by omega)) (up_ne (by omega))⟩
  · unfold isP at hv
    unfold ixA
    by_cases c : (i : Int) + 2048 = v
    · rw [if_pos (by omega), show (v - 2048).toNat = i by omega, show v.toNat = 2048 + i by omega, up_same, up_same]
    · rw [up_ne (by split <;> omega), up_ne (by omega)]
      exact m1 i hi
  · unfold isP at hv
    unfold ixA
    by_cases c : (k : Int) + 16384 = v
    · rw [if_neg (by omega), show (v - 16384 + 12288).toNat = 12288 + k by omega, show v.toNat = 16384 + k by omega, up_same, up_same]
    · rw [up_ne (by split <;> omega), up_ne (by omega)]
      exact m2 k hk
  · by_cases c : i = (ixA v).toNat
    · rw [c, up_same]; exact hx
    · rw [up_ne (by omega)]; exact m3 i
theorem wr_ok1 (h : LB s t) (hg : gO s t) : Ov (fun r r' => r = 0 ∧ r' = 0) (mem_write a b s) (m_write a b t) := by
  by_cases hv : isP (i_s a)
  · have hi := ixA_rg hv
    have hv' := hv
    unfold isP at hv'
    refine Or.inl ⟨0, 0, up s 45 (ixA (i_s a)).toNat (i_s b), up t 175 (i_s a).toNat (i_s b), ?_, ?_, ⟨rfl, rfl⟩, LB_put h hv (i_s_rg b), by rw [gO, up_ne (by omega), up_ne (by omega)]; exact hg⟩
    · unfold mem_write
      rw [idx_y hv, bq, gr (by omega), if_neg (by omega), hg.1, gr (by omega), if_pos rfl, gd_pos (by omega), lt_eq]
    · unfold m_write m_write_18 m_word16
      rw [bq, isp_y hv, bq, gr (by omega), if_neg (by omega), hg.2, gr (by omega), if_pos rfl, bq, gd_pos (by omega), lt_eq]
  · refine Or.inr ⟨0, 0, up (up s 44 5 1) 44 6 20, up (up t 121 99 3) 121 100 20, ?_, ?_, ⟨by decide, by decide⟩, ?_⟩
    · unfold mem_write mem_fail
      rw [idx_n (i_s_rg a) hv, bq, gr (by omega), if_pos rfl, hg.1, gr (by omega), if_pos rfl, lt_eq, lt_eq, bq]
    · have z : up (up t 121 99 3) 121 100 20 121 99 = 3 := by rw [up_ne (by omega), up_same]
      unfold m_write m_write_18 m_word16 m_err
      rw [bq, isp_n (i_s_rg a) hv, bq, gr (by omega), if_pos rfl, hg.2, gr (by omega), if_pos rfl, lt_eq, lt_eq, bq, z, gr (by omega), if_neg (by omega)]
    · have F := fail_go (V := fun r r' => False) (v := 20) h hg (by decide)
      rcases F with ⟨r, r', s', t', _, _, e3, _⟩ | ⟨r, r', s', t', e1, e2, e3, e4, e5⟩
      · exact e3.elim
      · unfold mem_fail at e1
        unfold m_err at e2
        rw [hg.1, gr (by omega), if_pos rfl, lt_eq, lt_eq] at e1
        rw [hg.2, gr (by omega), if_pos rfl, lt_eq, lt_eq] at e2
        have q1 : up (up s 44 5 1) 44 6 20 = s' := congrArg Prod.snd (Option.some.inj e1)
        have q2 : up (up t 121 99 3) 121 100 20 = t' := congrArg Prod.snd (Option.some.inj e2)
        rw [q1, q2]
        exact ⟨e4, e5⟩
theorem wr_dc : DCl (mem_write a b) := fun s t h hk => by
  refine ⟨0, ?_, by decide⟩
  unfold mem_write mem_fail
  by_cases hv : isP (i_s a)
  · have hi := ixA_rg hv
    rw [idx_y hv, bq, gr (by omega), if_neg (by omega), hk.1, gr (by omega), if_neg (by omega)]
  · rw [idx_n (i_s_rg a) hv, bq, gr (by omega), if_pos rfl, hk.1, gr (by omega), if_neg (by omega), bq]
theorem wr_dr : DRf (m_write a b) := fun s t h hk => by
  refine ⟨0, ?_, by decide⟩
  unfold m_write m_write_18 m_word16 m_err
  by_cases hv : isP (i_s a)
  · rw [bq, isp_y hv, bq, gr (by omega), if_neg (by omega), hk.2, gr (by omega), if_neg (by omega)]
  · rw [bq, isp_n (i_s_rg a) hv, bq, gr (by omega), if_pos rfl, hk.2, gr (by omega), if_neg (by omega), bq, hk.2, gr (by omega), if_neg (by omega)]
end LBa
