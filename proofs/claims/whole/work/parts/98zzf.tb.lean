/-! the second reading: what is known of the names -/
def fsT (Kf : List Nat) (Uf : List urec) (k : Nat) : Int := if 8 + Kf.length < k then 0 else if k < 9 then sysFS.getD k 0 else 40 + (Uf.countP (fun u => decide (u.1 < ((k - 8 : Nat) : Int))) : Int)
def roT (Uf : List urec) (u : Nat) : Int := if u < 40 then sysRO.getD u 0 else 256 + (Uf.getD (u - 40) (0, 0, 0, 0)).2.1
def tyT (F : Nat → Int) (P : Nat → Nat) (s0 t0 : iS) (Kf : List Nat) (r : wrec) : Int := if s0 9 r.2.2.2.1.toNat = 3 then fcK F P t0 Kf r.2.2.2.1.toNat else -1
def sgT (r : wrec) : Int := if r.2.2.1 = 0 then 3 else if r.2.2.1 = 1 then 4 else if r.2.2.1 = 2 then 1 else 2
def nuT (so : Int) (r : wrec) : Int := r.2.2.2.2.2.1 + (if r.2.2.1 = 2 ∧ so = 3 then 1 else 0)
/-- the tables of the second reading -/
def X2T (F : Nat → Int) (P : Nat → Nat) (s0 t0 : iS) (N : Nat) (Kf : List Nat) (Uf : List urec) (pa : Nat → Int) (s : iS) : Prop :=
  TB 24 25 26 (sysCN ++ Kf.map (nmT F P t0)) s ∧ TB 27 28 29 (sysSN ++ Uf.map (fun u => nmT F P t0 u.2.2.1)) s ∧ (∀ k, k ≤ 8 + Kf.length → s 30 k = fsT Kf Uf k) ∧ (∀ u, u < 40 + Uf.length → s 31 u = pa u ∧ s 32 u = roT Uf u ∧ -1000 ≤ pa u ∧ pa u ≤ 1000) ∧ (∀ j ∈ Kf, j < N ∧ s0 9 j = 3) ∧ (∀ u ∈ Uf, u.2.2.1 < N ∧ s0 9 u.2.2.1 = 3 ∧ 0 ≤ u.1 ∧ u.1 < (Kf.length : Int) ∧ (u.2.1 = 1 ∨ u.2.1 = 2 ∨ u.2.1 = 3)) ∧ Kf.length ≤ 12 ∧ Uf.length ≤ 60
/-- the variables at hand -/
def X2V (F : Nat → Int) (P : Nat → Nat) (s0 t0 : iS) (Kf : List Nat) (wl : List wrec) (cv : Nat) (so : Int) (s : iS) : Prop :=
  VS (vNs F P t0 wl) cv s ∧ ∀ i, i < wl.length → s 36 i = tyT F P s0 t0 Kf (wl.getD i (0, 0, 0, 0, 0, 0, 0)) ∧ s 37 i = sgT (wl.getD i (0, 0, 0, 0, 0, 0, 0)) ∧ s 38 i = nuT so (wl.getD i (0, 0, 0, 0, 0, 0, 0)) ∧ s 39 i = (wl.getD i (0, 0, 0, 0, 0, 0, 0)).2.2.2.2.2.2 ∧ 0 ≤ (wl.getD i (0, 0, 0, 0, 0, 0, 0)).2.2.2.2.2.2 ∧ (wl.getD i (0, 0, 0, 0, 0, 0, 0)).2.2.2.2.2.2 ≤ 1000
/-- which sub a name is -/
def fsbT (F : Nat → Int) (P : Nat → Nat) (t0 : iS) (Kf : List Nat) (Uf : List urec) (ow : Int) (j : Nat) : Int := if ow = -1 then -1 else fst1 (fun i => (sysSN ++ Uf.map (fun u => nmT F P t0 u.2.2.1)).getD i [] = nmT F P t0 j) (fsT Kf Uf ow.toNat).toNat ((fsT Kf Uf (ow.toNat + 1)).toNat - (fsT Kf Uf ow.toNat).toNat)
def nmbT (Kf : List Nat) (Uf : List urec) (ow sub : Int) : Int := 100 * ow + sub - (if ow < 0 then 0 else fsT Kf Uf ow.toNat)
/-- what is told of a call -/
def ntC (F : Nat → Int) (P : Nat → Nat) (t0 : iS) (Kf : List Nat) (Uf : List urec) (pa : Nat → Int) (ow : Int) (j : Nat) (obj : Int) (m : Nat) : List Nat := if fsbT F P t0 Kf Uf ow j = -1 then [16 * j + 4] else if ((roT Uf (fsbT F P t0 Kf Uf ow j).toNat = 259) ↔ (obj = 1)) ∧ pa (fsbT F P t0 Kf Uf ow j).toNat = (m : Int) then [] else [16 * j + 5]
section R2b
variable {F : Nat → Int} {n N : Nat} {P : Nat → Nat} {s0 t0 s s' : iS} {j m : Nat} {Kf : List Nat} {Uf : List urec} {pa : Nat → Int} {wl : List wrec} {cv : Nat} {so ow obj : Int} {L : List Nat}
theorem X2T_of (h : X2T F P s0 t0 N Kf Uf pa s) (hf : ∀ c k, 24 ≤ c ∧ c ≤ 32 → s' c k = s c k) : X2T F P s0 t0 N Kf Uf pa s' := by
  obtain ⟨h1, h2, h3, h4, h5⟩ := h
  exact ⟨TBo (hf 24 2 (by omega)) (funext fun k => hf 25 k (by omega)) (funext fun k => hf 26 k (by omega)) h1, TBo (hf 27 2 (by omega)) (funext fun k => hf 28 k (by omega)) (funext fun k => hf 29 k (by omega)) h2, fun k hk => by rw [hf 30 k (by omega)]; exact h3 k hk, fun u hu => by rw [hf 31 u (by omega), hf 32 u (by omega)]; exact h4 u hu, h5⟩
theorem X2V_of (h : X2V F P s0 t0 Kf wl cv so s) (hf : ∀ c k, 33 ≤ c ∧ c ≤ 39 ∨ c = 23 ∧ k = 15 → s' c k = s c k) : X2V F P s0 t0 Kf wl cv so s' :=
  ⟨VS_of h.1 (fun c k q => hf c k (by omega)), fun i hi => by rw [hf 36 i (by omega), hf 37 i (by omega), hf 38 i (by omega), hf 39 i (by omega)]; exact h.2 i hi⟩
theorem fsT_rg (k : Nat) : 0 ≤ fsT Kf Uf k ∧ fsT Kf Uf k ≤ 40 + (Uf.length : Int) := by
  unfold fsT
  by_cases c0 : 8 + Kf.length < k
  · rw [if_pos c0]; omega
  rw [if_neg c0]
  by_cases c : k < 9
  · rw [if_pos c]
    have : ∀ i : Fin 9, 0 ≤ sysFS.getD i.val 0 ∧ sysFS.getD i.val 0 ≤ 40 := by decide
    have := this ⟨k, c⟩
    simp only at this
    omega
  · rw [if_neg c]
    have := List.countP_le_length (p := fun u : urec => decide (u.1 < ((k - 8 : Nat) : Int))) (l := Uf)
    omega
theorem firstSub_ok (h : X2T F P s0 t0 N Kf Uf pa s) (ho : -1 ≤ ow ∧ ow ≤ 20) : scp_firstSubOf ow s = some (if ow < 0 then 0 else fsT Kf Uf ow.toNat, s) := by
  obtain ⟨h1, h2, h3, h4, h5, h6, h7, h8⟩ := h
  have z := h1.1
  rw [nmK_l] at z
  unfold scp_firstSubOf
  rw [gr (by omega)]
  by_cases c : ow < 0
  · rw [if_pos c, if_pos c]
  · rw [if_neg c, if_neg c, z, gr (by omega)]
    by_cases c2 : 8 + Kf.length < ow.toNat
    · rw [if_pos (by omega)]
      unfold fsT
      rw [if_pos c2]
    · rw [if_neg (by omega), gd_pos (by omega), h3 _ (by omega)]
theorem fsbT_rg : fsbT F P t0 Kf Uf ow j = -1 ∨ (0 ≤ fsbT F P t0 Kf Uf ow j ∧ fsbT F P t0 Kf Uf ow j < 40 + (Uf.length : Int) ∧ 0 ≤ ow ∨ ow < -1) := by
  unfold fsbT
  by_cases c : ow = -1
  · rw [if_pos c]; exact Or.inl rfl
  · rw [if_neg c]
    have a := fst1_rg (P := fun i => (sysSN ++ Uf.map (fun u => nmT F P t0 u.2.2.1)).getD i [] = nmT F P t0 j) ((fsT Kf Uf (ow.toNat + 1)).toNat - (fsT Kf Uf ow.toNat).toNat) (fsT Kf Uf ow.toNat).toNat
    have b := fsT_rg (Kf := Kf) (Uf := Uf) (ow.toNat + 1)
    have b' := fsT_rg (Kf := Kf) (Uf := Uf) ow.toNat
    rcases a with a | ⟨a1, a2, _⟩
    · exact Or.inl a
    · omega
theorem fsub_ok (h : TKR 0 F n N P s0 t0) (hs : SC s0 s) (hj : j < N) (hk : s0 9 j = 3) (hX : X2T F P s0 t0 N Kf Uf pa s) (ho : -1 ≤ ow ∧ ow < 20) : trl_findSub ow (j : Int) s = some (fsbT F P t0 Kf Uf ow j, s) := by
  have hX' := hX
  obtain ⟨h1, h2, h3, h4, h5, h6, h7, h8⟩ := hX
  have hg := nmU_g h (U := Uf) (fun u hu => ⟨(h6 u hu).1, (h6 u hu).2.1⟩)
  unfold trl_findSub trl_findSub_19 fsbT
  rw [gr (by omega)]
  by_cases c : ow = -1
  · rw [if_pos c, if_pos c, firstSub_ok hX' (by omega), bq, if_pos (by omega)]
    have e := cFi (c := 27) (a := 28) (b := 29) (M := 100) (f := 0) (e := 0) h hs hj hk h2 hg (by omega) (by rw [nmU_l]; omega) (by omega) (by omega)
    rw [show min 0 (sysSN ++ Uf.map (fun u => nmT F P t0 u.2.2.1)).length - 0 = 0 by omega] at e
    rw [show tok_findIn 27 28 29 100 (j : Int) 0 0 s = _ from e, bq]
    rfl
  · have b := fsT_rg (Kf := Kf) (Uf := Uf) (ow.toNat + 1)
    have b' := fsT_rg (Kf := Kf) (Uf := Uf) ow.toNat
    rw [if_neg c, if_neg c, firstSub_ok hX' (by omega), bq, if_neg (by omega), firstSub_ok hX' (by omega), bq, if_neg (by omega), show (ow + 1).toNat = ow.toNat + 1 by omega]
    obtain ⟨f, hf⟩ : ∃ f : Nat, fsT Kf Uf ow.toNat = (f : Int) := ⟨(fsT Kf Uf ow.toNat).toNat, by omega⟩
    obtain ⟨e, he⟩ : ∃ e : Nat, fsT Kf Uf (ow.toNat + 1) = (e : Int) := ⟨(fsT Kf Uf (ow.toNat + 1)).toNat, by omega⟩
    rw [hf, he]
    have E := cFi (c := 27) (a := 28) (b := 29) (M := 100) (f := f) (e := e) h hs hj hk h2 hg (by omega) (by rw [nmU_l]; omega) (by omega) (by omega)
    rw [nmU_l, show min e (40 + Uf.length) = e by omega] at E
    rw [E, bq, Int.toNat_natCast, Int.toNat_natCast]
theorem role_ok (hX : X2T F P s0 t0 N Kf Uf pa s) {r : Int} (hr : r = -1 ∨ 0 ≤ r ∧ r < 40 + (Uf.length : Int)) : scp_roleOf r s = some (if r = -1 then 258 else roT Uf r.toNat, s) ∧ scp_parametersOf r s = some (if r = -1 then 0 else pa r.toNat, s) := by
  obtain ⟨h1, h2, h3, h4, h5, h6, h7, h8⟩ := hX
  have z := h2.1
  rw [nmU_l] at z
  rcases hr with c | c
  · refine ⟨?_, ?_⟩
    · unfold scp_roleOf
      rw [gr (by omega), if_pos (by omega), if_pos c]
    · unfold scp_parametersOf
      rw [gr (by omega), if_pos (by omega), if_pos c]
  · obtain ⟨a1, a2, _⟩ := h4 r.toNat (by omega)
    refine ⟨?_, ?_⟩
    · unfold scp_roleOf
      rw [z, gr (by omega), if_neg (by omega), gr (by omega), if_neg (by omega), if_neg (by omega), gd_pos (by omega), a2]
    · unfold scp_parametersOf
      rw [z, gr (by omega), if_neg (by omega), gr (by omega), if_neg (by omega), if_neg (by omega), gd_pos (by omega), a1]
theorem roT_rg (h : ∀ u ∈ Uf, u.2.1 = 1 ∨ u.2.1 = 2 ∨ u.2.1 = 3) {u : Nat} (hu : u < 40 + Uf.length) : 257 ≤ roT Uf u ∧ roT Uf u ≤ 259 := by
  unfold roT
  by_cases c : u < 40
  · rw [if_pos c]
    have : ∀ i : Fin 40, 257 ≤ sysRO.getD i.val 0 ∧ sysRO.getD i.val 0 ≤ 259 := by decide
    exact this ⟨u, c⟩
  · rw [if_neg c]
    have e : Uf.getD (u - 40) (0, 0, 0, 0) = Uf[u - 40]'(by omega) := by rw [List.getD_eq_getElem?_getD, List.getElem?_eq_getElem (by omega)]; rfl
    have := h (Uf[u - 40]'(by omega)) (List.getElem_mem _)
    rw [e]
    omega
/-- a call is looked at -/
theorem csub_ok (hX : X2T F P s0 t0 N Kf Uf pa s) (hb : BLc L s) (hj : j < 2001) (hobj : obj = 0 ∨ obj = 1) (hm : m ≤ 1000) (hr : fsbT F P t0 Kf Uf ow j = -1 ∨ 0 ≤ fsbT F P t0 Kf Uf ow j ∧ fsbT F P t0 Kf Uf ow j < 40 + (Uf.length : Int)) : ∃ s1, trl_checkSub (fsbT F P t0 Kf Uf ow j) (j : Int) obj (m : Int) s = some (0, s1) ∧ BLc (L ++ ntC F P t0 Kf Uf pa ow j obj m) s1 ∧ (∀ c k, ¬ (c = 2 ∧ (k = 13 ∨ k = 14)) → s1 c k = s c k) := by
  obtain ⟨e1, e2⟩ := role_ok hX hr
  have h4 := hX.2.2.2.1
  have h6 := hX.2.2.2.2.2.1
  have h60 : Uf.length ≤ 60 := hX.2.2.2.2.2.2.2
  generalize hq : fsbT F P t0 Kf Uf ow j = r at *
  have T : ∀ y : Int, (y = 0 ∨ y = 1) → (y = 1 ↔ (if r = -1 then 258 else roT Uf r.toNat) = 259) → ∃ s1, trl_checkSub_19 r (j : Int) obj (m : Int) y s = some (0, s1) ∧ BLc (L ++ ntC F P t0 Kf Uf pa ow j obj m) s1 ∧ (∀ c k, ¬ (c = 2 ∧ (k = 13 ∨ k = 14)) → s1 c k = s c k) := by
    intro y hy hy2
    unfold trl_checkSub_19 ntC
    rw [hq, gr (by omega)]
    by_cases c : r = -1
    · rw [if_pos c, if_pos c]
      obtain ⟨s1, b1, b2, b3⟩ := bl_add (f := 4) (t := j) hb (by omega) hj
      exact ⟨s1, by rw [show ((4 : Nat) : Int) = 4 from rfl] at b1; rw [b1, bq], b2, b3⟩
    · rw [if_neg c] at e2 hy2
      obtain ⟨a1, a2, a3, a4⟩ := h4 r.toNat (by omega)
      rw [if_neg c, if_neg c, gr (by omega), gr (by omega)]
      have bad : ∃ s1, trl_checkSub_57 (j : Int) s = some (0, s1) ∧ BLc (L ++ [16 * j + 5]) s1 ∧ (∀ c k, ¬ (c = 2 ∧ (k = 13 ∨ k = 14)) → s1 c k = s c k) := by
        obtain ⟨s1, b1, b2, b3⟩ := bl_add (f := 5) (t := j) hb (by omega) hj
        refine ⟨s1, ?_, b2, b3⟩
        unfold trl_checkSub_57
        rw [show ((5 : Nat) : Int) = 5 from rfl] at b1
        rw [b1, bq]
      by_cases c2 : y = obj
      · rw [if_pos c2, e2, bq, gr (by omega), gr (by omega)]
        by_cases c3 : pa r.toNat = (m : Int)
        · rw [if_pos c3, if_pos ⟨⟨fun q => by have := hy2.mpr q; omega, fun q => hy2.mp (by omega)⟩, c3⟩]
          exact ⟨s, rfl, by rw [List.append_nil]; exact hb, fun _ _ _ => rfl⟩
        · rw [if_neg c3, if_neg (fun q => c3 q.2)]
          exact bad
      · rw [if_neg c2, if_neg (fun q => by
          rcases hy with z | z <;> rcases hobj with z' | z'
          · exact c2 (by omega)
          · have := hy2.mpr (q.1.mpr z'); omega
          · have := q.1.mp (hy2.mp z); omega
          · exact c2 (by omega))]
        exact bad
  have hro : (if r = -1 then 258 else roT Uf r.toNat) = 258 ∨ 257 ≤ (if r = -1 then 258 else roT Uf r.toNat) ∧ (if r = -1 then 258 else roT Uf r.toNat) ≤ 259 := by
    by_cases c : r = -1
    · rw [if_pos c]; exact Or.inl rfl
    · rw [if_neg c]
      exact Or.inr (roT_rg (fun u hu => (h6 u hu).2.2.2.2) (by omega))
  unfold trl_checkSub
  rw [e1, bq, gr (by omega)]
  by_cases c : (if r = -1 then 258 else roT Uf r.toNat) = 259
  · rw [if_pos c]
    exact T 1 (Or.inr rfl) ⟨fun _ => c, fun _ => rfl⟩
  · rw [if_neg c]
    exact T 0 (Or.inl rfl) ⟨fun q => by omega, fun q => absurd q c⟩
/-- a call: looked at, and its command -/
theorem call_212 {G : Nat → Int → Int → Int → iS → Option (Int × iS)} {cs : List crec} {pm : Int} (h : TKR 0 F n N P s0 t0) (hs : SC s0 s) (hj : j < N) (hk : s0 9 j = 3) (hX : X2T F P s0 t0 N Kf Uf pa s) (hb : BLc L s) (he : EMc cs pm s) (ho : -1 ≤ ow ∧ ow < 20) (hobj : obj = 0 ∨ obj = 1) (hm : m ≤ 1000) : ∃ s1, trl_readCall_212 G obj (m : Int) ow (j : Int) s = some (0, s1) ∧ BLc (L ++ ntC F P t0 Kf Uf pa ow j obj m) s1 ∧ EMc (cs ++ [(15, nmbT Kf Uf ow (fsbT F P t0 Kf Uf ow j), (m : Int) + obj, fsbT F P t0 Kf Uf ow j, pm)]) (-1) s1 ∧ (∀ c k, ¬ (15 ≤ c ∧ c ≤ 19) → ¬ (c = 14 ∧ (k = 8 ∨ k = 12)) → ¬ (c = 2 ∧ (k = 13 ∨ k = 14)) → s1 c k = s c k) := by
  have hN2 := N1001 h
  have hr : fsbT F P t0 Kf Uf ow j = -1 ∨ 0 ≤ fsbT F P t0 Kf Uf ow j ∧ fsbT F P t0 Kf Uf ow j < 40 + (Uf.length : Int) := by
    rcases fsbT_rg (F := F) (P := P) (t0 := t0) (Kf := Kf) (Uf := Uf) (ow := ow) (j := j) with q | q
    · exact Or.inl q
    · omega
  obtain ⟨s1, a1, a2, a3⟩ := csub_ok (obj := obj) (m := m) hX hb (by omega) hobj hm hr
  have X1 : X2T F P s0 t0 N Kf Uf pa s1 := X2T_of hX (fun c k q => a3 c k (by omega))
  have E1 : EMc cs pm s1 := EMc_of he (fun c k q => a3 c k (by omega))
  have hN : scp_numberOf ow (fsbT F P t0 Kf Uf ow j) s1 = some (nmbT Kf Uf ow (fsbT F P t0 Kf Uf ow j), s1) := by
    unfold scp_numberOf nmbT
    rw [firstSub_ok X1 (by omega), bq]
  have nb : -100000 ≤ nmbT Kf Uf ow (fsbT F P t0 Kf Uf ow j) ∧ nmbT Kf Uf ow (fsbT F P t0 Kf Uf ow j) ≤ 100000 := by
    have q := fsT_rg (Kf := Kf) (Uf := Uf) ow.toNat
    have q8 := hX.2.2.2.2.2.2.2
    unfold nmbT
    split <;> omega
  have h60 : Uf.length ≤ 60 := hX.2.2.2.2.2.2.2
  obtain ⟨s2, b1, b2, b3⟩ := em_add (a := 15) (b := nmbT Kf Uf ow (fsbT F P t0 Kf Uf ow j)) (c := (m : Int) + obj) E1 (Or.inl rfl) ⟨by show (0 : Int) ≤ 15 ∧ (15 : Int) < 20; omega, nb, fun _ q => by have : (15 : Int) ≤ 13 := q; omega⟩
  obtain ⟨s3, c1, c2, c3⟩ := em_aim (y := fsbT F P t0 Kf Uf ow j) b2 (by omega)
  refine ⟨s3, ?_, BLc_of a2 (by rw [c3 2 13 (by omega) (by omega), b3 2 13 (by omega) (by omega)]) (by rw [c3 2 14 (by omega) (by omega), b3 2 14 (by omega) (by omega)]), c2, fun c k z1 z2 z3 => by rw [c3 c k z1 z2, b3 c k z1 z2, a3 c k z3]⟩
  unfold trl_readCall_212 trl_readCall_267
  rw [fsub_ok h hs hj hk hX ho, bq, a1, bq, hN, bq, gr (by omega)]
  rcases hobj with z | z
  · rw [if_pos z]
    rw [z, Int.add_zero] at b1
    rw [b1, bq, c1, bq]
  · rw [if_neg (by omega)]
    rw [z] at b1
    rw [b1, bq, c1, bq]
end R2b
