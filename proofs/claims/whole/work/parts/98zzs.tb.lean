/-! the reference's checks: names -/
section RK
variable {F : Nat → Int} {n N : Nat} {P : Nat → Nat} {s0 t0 t : iS} {a b j : Nat} {K : List Nat}
/-- the reference's tables of the system -/
def RSY (t : iS) : Prop := (∀ i, i < 8 → t 165 i = sysCA.getD i 0 ∧ t 164 i = sysFI.getD i 0) ∧ t 164 8 = 40 ∧ (∀ i, i < 40 → t 166 i = sysAT.getD i 0 ∧ t 167 i = sysME.getD i 0 ∧ t 168 i = sysMN.getD i 0)
/-- the reference behind reading -/
def RQ (F : Nat → Int) (n N : Nat) (P : Nat → Nat) (s0 t0 t : iS) : Prop := TKR 0 F n N P s0 t0 ∧ tkR F n t0 ∧ SR t0 t ∧ RSY t
theorem bs_cons {f : Nat → Int} {st k : Nat} : bs f st (k + 1) = f st :: bs f (st + 1) k := by
  rw [Nat.add_comm k 1, bs_split, bs_one]
  rfl
theorem RQ_tk (h : RQ F n N P s0 t0 t) (hj : j < N) (hk : s0 9 j = 3) : ∃ z : Nat, nmT F P t0 j = bs F (P j) z ∧ t 126 j = (z : Int) ∧ t 125 j = (P j : Int) ∧ 1 ≤ z ∧ z ≤ 16 ∧ P j + z ≤ n ∧ n ≤ 4000 ∧ j < 1001 ∧ t 124 j = 1 ∧ ∀ i, i < z → t 123 (P j + i) = F (P j + i) ∧ wb (F (P j + i)) ∧ 0 ≤ F (P j + i) ∧ F (P j + i) < 256 := by
  obtain ⟨h1, h2, h3, h4⟩ := h
  obtain ⟨a1, a2, a3, ⟨z, a4, a5, a6, a7⟩, a8⟩ := tkN h1 hj hk
  obtain ⟨b1, b2, b3, b4, b5⟩ := h2
  have hN := N1001 h1
  have k := tkK h1 hj
  refine ⟨z, by unfold nmT; rw [a4, Int.toNat_natCast], by rw [h3.2.2.2.1]; exact a4, by rw [h3.2.2.1]; exact (tkP h1 hj).2.1, a5, a6, a7, b2, by omega, by rw [h3.2.1]; split at k <;> omega, fun i hi => ⟨by rw [h3.1]; exact b3 _ (by omega), a8 i (by omega), b5 _⟩⟩
theorem lk0 {v1 v2 x : Int} {z : Nat} (h1 : 0 ≤ v1 ∧ v1 < 2002) (hz : t 126 v1.toNat = (z : Int)) (hz2 : z ≤ 16) (hx : 0 ≤ x ∧ x < 100) : m_like_24 v1 v2 0 x t = some (0, t) := by
  unfold m_like_24
  rw [lp_end (f := fun l : Int × Int × iS => m_like_24b v1 v2 (l.1) (l.2.1) (l.2.2)) (l := (0, x, t)) (e := (0, t)) (by
    show m_like_24b v1 v2 0 x t = _
    unfold m_like_24b
    rw [gd_pos h1, gr (by omega), hz, gr (by omega)]
    by_cases c : (z : Int) ≤ x
    · rw [if_pos c]
    · rw [if_neg c, gr (by omega), if_pos rfl])]
  show gd _ _ = _
  rw [gd_pos (Or.inl rfl)]
theorem lk1 {z : Nat} (ha : t 126 a = (z : Int)) (ha2 : t 125 a = (P a : Int)) (hb2 : t 125 b = (P b : Int)) (hN : a < 1001 ∧ b < 1001 ∧ z ≤ 16 ∧ P a + z ≤ n ∧ P b + z ≤ n ∧ n ≤ 4000) (hF : ∀ i, i < z → t 123 (P a + i) = F (P a + i) ∧ 0 ≤ F (P a + i) ∧ F (P a + i) < 256) (hF2 : ∀ i, i < z → t 123 (P b + i) = F (P b + i) ∧ 0 ≤ F (P b + i) ∧ F (P b + i) < 256) : ∀ k x : Nat, x + k = z → m_like_24 (a : Int) (b : Int) 1 (x : Int) t = some (if bs F (P a + x) k = bs F (P b + x) k then 1 else 0, t)
  | 0, x, h => by
    unfold m_like_24
    rw [lp_end (f := fun l : Int × Int × iS => m_like_24b (a : Int) (b : Int) (l.1) (l.2.1) (l.2.2)) (l := (1, (x : Int), t)) (e := (1, t)) (by
      show m_like_24b (a : Int) (b : Int) 1 (x : Int) t = _
      unfold m_like_24b
      rw [gd_pos (by omega), gr (by omega), Int.toNat_natCast, ha, gr (by omega), if_pos (by omega)])]
    show gd _ _ = _
    rw [gd_pos (Or.inr rfl), if_pos (by rw [bs_nil, bs_nil])]
  | k + 1, x, h => by
    have c1 := hF x (by omega)
    have c2 := hF2 x (by omega)
    have st : m_like_24b (a : Int) (b : Int) 1 (x : Int) t = some (.inl (if F (P a + x) = F (P b + x) then 1 else 0, ((x + 1 : Nat) : Int), t)) := by
      unfold m_like_24b
      rw [gd_pos (by omega), gr (by omega), Int.toNat_natCast, Int.toNat_natCast, ha, gr (by omega), if_neg (by omega), gr (by omega), if_neg (by omega), ha2, hb2, gd_pos (by omega), gd_pos (by omega), gd_pos (by omega), show ((P a : Int) + (x : Int)).toNat = P a + x by omega, show ((P b : Int) + (x : Int)).toNat = P b + x by omega, c1.1, c2.1, gr (by omega), gr (by omega)]
      by_cases c : F (P a + x) = F (P b + x)
      · rw [if_pos c, if_pos c]; rfl
      · rw [if_neg c, if_neg c]; rfl
    have e1 : m_like_24 (a : Int) (b : Int) 1 (x : Int) t = m_like_24 (a : Int) (b : Int) (if F (P a + x) = F (P b + x) then 1 else 0) ((x + 1 : Nat) : Int) t := by
      unfold m_like_24
      rw [lp_next (f := fun l : Int × Int × iS => m_like_24b (a : Int) (b : Int) (l.1) (l.2.1) (l.2.2)) (l := (1, (x : Int), t)) st]
    rw [e1, bs_cons, bs_cons]
    by_cases c : F (P a + x) = F (P b + x)
    · rw [if_pos c, lk1 ha ha2 hb2 hN hF hF2 k (x + 1) (by omega), show P a + (x + 1) = P a + x + 1 by omega, show P b + (x + 1) = P b + x + 1 by omega]
      by_cases d : bs F (P a + x + 1) k = bs F (P b + x + 1) k
      · rw [if_pos d, if_pos (by rw [c, d])]
      · rw [if_neg d, if_neg (fun e => d (List.cons.inj e).2)]
    · rw [if_neg c, lk0 (z := z) (by omega) (by rw [Int.toNat_natCast]; exact ha) (by omega) (by omega), if_neg (fun e => c (List.cons.inj e).1)]
/-- two names are alike -/
theorem like_ok (h : RQ F n N P s0 t0 t) (ha : a < N ∧ s0 9 a = 3) (hb : b < N ∧ s0 9 b = 3) : m_like (a : Int) (b : Int) t = some (if nmT F P t0 a = nmT F P t0 b then 1 else 0, t) := by
  obtain ⟨z, a1, a2, a3, a4, a5, a6, a7, a8, a9, a10⟩ := RQ_tk h ha.1 ha.2
  obtain ⟨y, b1, b2, b3, b4, b5, b6, b7, b8, b9, b10⟩ := RQ_tk h hb.1 hb.2
  unfold m_like
  rw [gd_pos (by omega), gd_pos (by omega), Int.toNat_natCast, Int.toNat_natCast, a2, b2, gr (by omega), gr (by omega), a1, b1]
  unfold m_like_20
  by_cases c : z = y
  · subst c
    rw [if_pos rfl]
    have := lk1 (F := F) (P := P) (t := t) (n := n) (a := a) (b := b) a2 a3 b3 ⟨by omega, by omega, by omega, a6, b6, a7⟩ (fun i hi => ⟨(a10 i hi).1, (a10 i hi).2.2⟩) (fun i hi => ⟨(b10 i hi).1, (b10 i hi).2.2⟩) z 0 (by omega)
    exact this
  · rw [if_neg (by omega), lk0 (z := z) (by omega) (by rw [Int.toNat_natCast]; exact a2) (by omega) (by omega), if_neg (fun e => c (by
      have := congrArg List.length e
      rw [bs_len, bs_len] at this
      exact this))]
/-- a name of the system stands at a place -/
def sysW (w : List Int) (q : Nat) : Bool := (List.range (w.length + 1)).all (fun x => decide (rg (k5 (q + x)) ∧ k5 (q + x) = (w ++ [32]).getD x 0)) && w.all (fun x => decide (x ≠ 32)) && decide (q + w.length < 465)
theorem sysW_c : (List.range 8).all (fun i => sysW (sysCN.getD i []) (sysCA.getD i 0).toNat && decide (0 ≤ sysCA.getD i 0)) = true := by decide +kernel
theorem sysW_s : (List.range 40).all (fun i => sysW (sysSN.getD i []) (sysAT.getD i 0).toNat && decide (0 ≤ sysAT.getD i 0)) = true := by decide +kernel
theorem sysW_at {w : List Int} {q : Nat} (h : sysW w q = true) : (∀ x, x ≤ w.length → rg ((ka_5 (q + x)).toInt) ∧ (ka_5 (q + x)).toInt = (w ++ [32]).getD x 0) ∧ (∀ x ∈ w, x ≠ 32) ∧ q + w.length < 465 := by
  unfold sysW at h
  rw [Bool.and_eq_true, Bool.and_eq_true] at h
  refine ⟨fun x hx => of_decide_eq_true (List.all_eq_true.mp h.1.1 x (List.mem_range.mpr (by omega))), fun x hx => of_decide_eq_true (List.all_eq_true.mp h.1.2 x hx), of_decide_eq_true h.2⟩
theorem iy42 {w : List Int} {q z x : Nat} (h : sysW w q = true) (hj : j < 1001) (hz : t 126 j = (z : Int)) (hz2 : z ≤ 16) (hx : x ≤ z) (hw : x ≤ w.length) : m_isSystem_42 (j : Int) (q : Int) (x : Int) t = some (if x = z ∧ x = w.length then 1 else 0, t) := by
  obtain ⟨s1, s2, s3⟩ := sysW_at h
  unfold m_isSystem_42
  rw [gd_pos (by omega), gr (by omega), Int.toNat_natCast, hz, gr (by omega)]
  by_cases c : x = z
  · obtain ⟨d1, d2⟩ := s1 x hw
    rw [if_pos (by omega), gd_pos (by omega), show ((q : Int) + (x : Int)).toNat = q + x by omega, gd_pos d1, d2]
    by_cases c2 : x = w.length
    · rw [if_pos (by rw [c2, gd_end]), if_pos ⟨c, c2⟩]
    · rw [if_neg (by
        rw [gd_app (show x < w.length by omega)]
        refine s2 _ ?_
        rw [List.getD_eq_getElem?_getD, List.getElem?_eq_getElem (show x < w.length by omega)]
        exact List.getElem_mem _), if_neg (fun e => c2 e.2)]
  · rw [if_neg (by omega), if_neg (fun e => c e.1)]
theorem iy_end {v1 v2 x y : Int} {t' : iS} (h : m_isSystem_2b v1 v2 x t = some (.inr (y, t'))) : m_isSystem_2 v1 v2 x t = m_isSystem_42 v1 v2 y t' := by
  unfold m_isSystem_2
  rw [lp_end (f := fun l : Int × iS => m_isSystem_2b v1 v2 (l.1) (l.2)) (l := (x, t)) h]
  rfl
theorem iy2 {w : List Int} {q z : Nat} (h : sysW w q = true) (hj : j < 1001) (hz : t 126 j = (z : Int)) (hp : t 125 j = (P j : Int)) (hz2 : z ≤ 16 ∧ P j + z ≤ n ∧ n ≤ 4000) (hF : ∀ i, i < z → t 123 (P j + i) = F (P j + i) ∧ F (P j + i) ≠ 32 ∧ 0 ≤ F (P j + i) ∧ F (P j + i) < 256) : ∀ k x : Nat, x + k = z → x ≤ w.length → m_isSystem_2 (j : Int) (q : Int) (x : Int) t = some (if bs F (P j + x) k = w.drop x then 1 else 0, t)
  | 0, x, hx, hw => by
    have st : m_isSystem_2b (j : Int) (q : Int) (x : Int) t = some (.inr ((x : Int), t)) := by
      unfold m_isSystem_2b
      rw [gd_pos (by omega), gr (by omega), Int.toNat_natCast, hz, gr (by omega), if_pos (by omega)]
    rw [iy_end st, iy42 h hj hz (by omega) (by omega) hw, bs_nil]
    by_cases c : x = w.length
    · rw [if_pos ⟨by omega, c⟩, if_pos (by rw [c, List.drop_length])]
    · rw [if_neg (fun e => c e.2), if_neg (fun e => c (by
        have := congrArg List.length e
        rw [List.length_drop, List.length_nil] at this
        omega))]
  | k + 1, x, hx, hw => by
    obtain ⟨f1, f2, f3⟩ := hF x (by omega)
    obtain ⟨s1, s2, s3⟩ := sysW_at h
    obtain ⟨d1, d2⟩ := s1 x hw
    have st : m_isSystem_2b (j : Int) (q : Int) (x : Int) t = if (w ++ [32]).getD x 0 = F (P j + x) then some (.inl (((x + 1 : Nat) : Int), t)) else some (.inr ((x : Int), t)) := by
      unfold m_isSystem_2b
      rw [gd_pos (by omega), gr (by omega), Int.toNat_natCast, hz, gr (by omega), if_neg (by omega), hp, gd_pos (by omega), gd_pos (by omega), show ((q : Int) + (x : Int)).toNat = q + x by omega, show ((P j : Int) + (x : Int)).toNat = P j + x by omega, gd_pos d1, f1, gr (by omega), d2]
      rfl
    rw [bs_cons]
    by_cases c : (w ++ [32]).getD x 0 = F (P j + x)
    · have c2 : x < w.length := by
        rcases Nat.lt_or_ge x w.length with q | q
        · exact q
        · exfalso
          rw [show x = w.length by omega, gd_end] at c
          rw [show x = w.length by omega] at f2
          exact f2 c.symm
      have e1 : m_isSystem_2 (j : Int) (q : Int) (x : Int) t = m_isSystem_2 (j : Int) (q : Int) ((x + 1 : Nat) : Int) t := by
        unfold m_isSystem_2
        rw [lp_next (f := fun l : Int × iS => m_isSystem_2b (j : Int) (q : Int) (l.1) (l.2)) (l := ((x : Int), t)) (st.trans (if_pos c))]
      rw [gd_app c2, List.getD_eq_getElem?_getD, List.getElem?_eq_getElem c2] at c
      rw [e1, iy2 h hj hz hp hz2 hF k (x + 1) (by omega) (by omega), List.drop_eq_getElem_cons c2, show P j + (x + 1) = P j + x + 1 by omega]
      by_cases d : bs F (P j + x + 1) k = w.drop (x + 1)
      · rw [if_pos d, if_pos (by rw [d, ← c]; rfl)]
      · rw [if_neg d, if_neg (fun e => d (List.cons.inj e).2)]
    · rw [iy_end (st.trans (if_neg c)), iy42 h hj hz (by omega) (by omega) hw, if_neg (by omega), if_neg]
      intro e
      rcases Nat.lt_or_ge x w.length with q | q
      · rw [List.drop_eq_getElem_cons q] at e
        rw [gd_app q, List.getD_eq_getElem?_getD, List.getElem?_eq_getElem q] at c
        exact c (List.cons.inj e).1.symm
      · rw [List.drop_of_length_le q] at e
        exact List.cons_ne_nil _ _ e
theorem isy_ok {w : List Int} {q : Int} (h : RQ F n N P s0 t0 t) (hj : j < N ∧ s0 9 j = 3) (hq : sysW w q.toNat = true ∧ 0 ≤ q) : m_isSystem (j : Int) q t = some (if nmT F P t0 j = w then 1 else 0, t) := by
  obtain ⟨z, a1, a2, a3, a4, a5, a6, a7, a8, a9, a10⟩ := RQ_tk h hj.1 hj.2
  have := iy2 (n := n) (F := F) (P := P) (t := t) (j := j) hq.1 a8 a2 a3 ⟨a5, a6, a7⟩ (fun i hi => ⟨(a10 i hi).1, (by
    have := (a10 i hi).2.1
    unfold wb at this
    omega), (a10 i hi).2.2⟩) z 0 (by omega) (by omega)
  rw [Int.toNat_of_nonneg hq.2] at this
  unfold m_isSystem
  rw [show m_isSystem_2 (j : Int) q 0 t = _ from this, a1]
  rfl
end RK
