/-! both machines: a string -/
section ROc
variable {F : Nat → Int} {n N : Nat} {P : Nat → Nat} {s0 t0 : iS} {K : List Nat} {U : List urec} {W : List wrec} {Y : List Nat} {A : List (List itm)} {I C p w u i j k fu m : Nat} {tr t1 t2 t3 s s' t t' q qB sB s1 sa ta tb : iS} {r : itm} {x : crc} {f : frm} {g : List frm} {pv vv st st' LL M : List Int} {ob v v' a : Int}
def CYx (sB q : iS) (k : Nat) : Prop := (∀ c j, ¬ (44 ≤ c ∧ c ≤ 49) → c ≠ 52 → ¬ (c = 51 ∧ (j = 6 ∨ j = 7)) → q c j = sB c j) ∧ q 51 7 = (k : Int)
theorem stepy {rr : Int} (h : SIM F P s0 t0 K U W A t3 fu s t (u, i, pv, vv, st, ob) g) (hr : (A.getD u []).getD i (0, 0, 0, 0) = r) (h16 : sB 51 16 = t 121 96) (hf : ∀ c k, ¬ (c = 51 ∧ (k = 16 ∨ k = 18)) → sB c k = s c k) (hm : m ≠ 0) (hq : CYx sB q (cpo F P s0 t0 K U W A u i + m)) (hl : m < (emU F P s0 t0 K U W u r).length) (hx : (emU F P s0 t0 K U W u r).getD m (0, 0, 0, 0) = x) (hd : mac_doCommand x.1 x.2.1 x.2.2.1 (s 18 (cpo F P s0 t0 K U W A u i + m)) (up q 51 7 ((cpo F P s0 t0 K U W A u i + (m + 1) : Nat) : Int)) = some (rr, s1)) : TN 1 q s1 := by
  obtain ⟨⟨⟨mm, g1⟩, -⟩, ⟨⟨⟨b1, b1'⟩, -⟩, -⟩, -, -, -, -, -, ⟨-, -, -, e14⟩, ⟨n1, n2, n3, n4, n5, n6⟩, ⟨-, e7⟩, -, -⟩ := h
  have n6' : 0 ≤ t 121 96 := by split at n6 <;> omega
  exact fetch (m := m) (mm := mm) (rr := rr) g1 b1 b1' hr hl hx (fun c k z1 z2 => by rw [hq.1 c k (by omega) (by omega) (by omega), hf c k (by omega)]) (by rw [hq.1 51 14 (by omega) (by omega) (by omega), hf 51 14 (by omega)]; exact e14) hq.2 (by rw [if_neg hm]; exact Or.inl ⟨rfl, rfl⟩) (by rw [hq.1 51 16 (by omega) (by omega) (by omega), h16]; omega) (by rw [hq.1 51 15 (by omega) (by omega) (by omega), hf 51 15 (by omega)]; omega) hd
theorem stC_len {pq : Nat} : ∀ (k i : Nat), (strC F pq i k).length = 2 * k
  | 0, _ => rfl
  | k + 1, i => by
    show (strC F pq (i + 1) k).length + 1 + 1 = _
    rw [stC_len k (i + 1)]
    omega
theorem strC_at {pq : Nat} {d : crc} : ∀ (k i j : Nat), j < k → (strC F pq i k).getD (2 * j) d = (0, 0, F (pq + (i + j)), 0) ∧ (strC F pq i k).getD (2 * j + 1) d = (15, 304, 2, 16)
  | 0, _, _, h => absurd h (by omega)
  | k + 1, i, 0, _ => ⟨rfl, rfl⟩
  | k + 1, i, j + 1, h => by
    obtain ⟨a1, a2⟩ := strC_at (pq := pq) (d := d) k (i + 1) j (by omega)
    constructor
    · show (strC F pq (i + 1) k).getD (2 * j) d = _
      rw [a1, show i + 1 + j = i + (j + 1) by omega]
    · show (strC F pq (i + 1) k).getD (2 * j + 1) d = _
      exact a2
/-- a command that calls the system -/
theorem c_cal2 {L B : List Int} {v2 kk rv : Int} (h : STK q (L ++ B)) (hB : B.length ≤ 8) (hl : (L ++ B).length ≤ 16000) (hv : -100 ≤ v2 ∧ v2 < 800) (hX : lib_perform kk (q 52 L.length) (q 52 (L.length + 1)) (q 52 (L.length + 2)) (q 52 (L.length + 3)) q = some (rv, sa)) (h6 : sa 51 6 = q 51 6) : mac_doCommand 15 v2 (B.length : Int) kk q = bd (mac_push rv (up sa 51 6 (L.length : Int))) (fun _ s54 => mac_doCommand_258 s54) := by
  have e6 : q 51 6 - (B.length : Int) = (L.length : Int) := by rw [h.1, List.length_append]; omega
  have ll : L.length ≤ 16000 := by rw [List.length_append] at hl; omega
  have at' : ∀ j : Nat, j ≤ 3 → mac_at ((L.length : Int) + (j : Int)) q = some (q 52 (L.length + j), q) := fun j hj => by
    unfold mac_at
    rw [gr (by omega), if_neg (by omega), if_neg (by omega), gd_pos (by omega), show ((L.length : Int) + (j : Int)).toNat = L.length + j by omega]
  have a0 := at' 0 (by omega)
  have a1 := at' 1 (by omega)
  have a2 := at' 2 (by omega)
  have a3 := at' 3 (by omega)
  rw [show (L.length : Int) + ((0 : Nat) : Int) = (L.length : Int) by omega, Nat.add_zero] at a0
  unfold mac_doCommand
  simp only [Int.reduceEq, ↓reduceIte]
  rw [gr (by omega), gr (by omega), if_pos hv.2, e6, a0, bq, show (L.length : Int) + 1 = (L.length : Int) + ((1 : Nat) : Int) by omega, a1, bq, show (L.length : Int) + 2 = (L.length : Int) + ((2 : Nat) : Int) by omega, a2, bq, show (L.length : Int) + 3 = (L.length : Int) + ((3 : Nat) : Int) by omega, a3, bq, hX, bq]
  unfold mth_max
  rw [gr (by omega), gr (by omega)]
  by_cases c : 0 < (L.length : Int)
  · rw [if_pos c, bq, lt_eq]
  · rw [if_neg c, bq, lt_eq, show (0 : Int) = (L.length : Int) by omega]
/-- the bytes of a string -/
theorem str_lp {z pq : Nat} (h : SIM F P s0 t0 K U W A t3 fu s t (u, i, pv, vv, st, ob) g) (hu : u < A.length) (hi : i < (A.getD u []).length) (hr : (A.getD u []).getD i (0, 0, 0, 0) = r) (m2 : sB 51 16 = t 121 96) (m4 : ∀ c k, ¬ (c = 51 ∧ (k = 16 ∨ k = 18)) → sB c k = s c k) (he : emU F P s0 t0 K U W u r = (0, 0, (z : Int), 0) :: (15, 300, 1, 12) :: strC F pq 1 z) (hz : z ≤ 60 ∧ pq + z + 2 ≤ 4000) (kI : stA A u + i < 5000) (h146 : t 146 (stA A u + i) = (z : Int)) (h170 : t 170 (stA A u + i) = (pq : Int)) (h171 : ∀ j, j < z → t 171 (pq + 1 + j) = F (pq + 1 + j)) (ha : w16 a) (hl : LL.length + 3 ≤ 16000) : ∀ (d b : Nat) (q tz : iS), b + d = z → CYx sB q (cpo F P s0 t0 K U W A u i + (2 + 2 * b)) → STK q (LL ++ [a]) → LB q tz → gO q tz → q 48 9 = 0 → (∀ c k, c ≠ 175 → c ≠ 176 → c ≠ 177 → c ≠ 187 → ¬ (c = 121 ∧ (k = 81 ∨ k = 99 ∨ k = 100 ∨ k = 103 ∨ k = 106 ∨ k = 108 ∨ k = 98)) → tz c k = t c k) →
    ∃ (m : Nat) (s' t' : iS), TN m q s' ∧ m ≤ 2 * d ∧ m_stringItem_13 ((stA A u + i : Nat) : Int) a (b : Int) tz = m_stringItem_57 a t' ∧ LB s' t' ∧ LRx tz t' ∧ (∀ k, k = 16 ∨ k = 17 ∨ k = 18 → s' 51 k = sB 51 k) ∧ (gO s' t' ∧ m = 2 * d ∧ CYx sB s' (cpo F P s0 t0 K U W A u i + (2 + 2 * z)) ∧ STK s' (LL ++ [a]) ∧ s' 48 9 = 0 ∨ s' 51 14 = 3 ∧ t' 121 99 = 3)
  | 0, b, q, tz, hb, cq, sq, lb, go, l9, ft => by
    have hb' : b = z := by omega
    subst hb'
    refine ⟨0, q, tz, TN_0, Nat.le_refl _, ?_, lb, fun _ _ _ _ _ _ _ => rfl, fun k hk => cq.1 51 k (by omega) (by omega) (by omega), Or.inl ⟨go, rfl, cq, sq, l9⟩⟩
    unfold m_stringItem_13
    rw [lp_end (f := fun l : Int × iS => m_stringItem_13b ((stA A u + i : Nat) : Int) a (l.1) (l.2)) (e := tz) (by
      show m_stringItem_13b ((stA A u + i : Nat) : Int) a (b : Int) tz = _
      unfold m_stringItem_13b
      rw [gd_pos (by omega), Int.toNat_natCast, ft 146 _ (by omega) (by omega) (by omega) (by omega) (by omega), h146, gr (by omega), gr (by omega), if_pos (Int.le_refl _)])]
    rfl
  | d + 1, b, q, tz, hb, cq, sq, lb, go, l9, ft => by
    obtain ⟨mm, g1⟩ := h.1.1
    have len : (emU F P s0 t0 K U W u r).length = 2 * z + 2 := by rw [he]; show (strC F pq 1 z).length + 1 + 1 = _; rw [stC_len]
    obtain ⟨x1, x2⟩ := strC_at (F := F) (pq := pq) (d := ((0, 0, 0, 0) : crc)) z 1 b (by omega)
    have y1 : (emU F P s0 t0 K U W u r).getD (2 + 2 * b) (0, 0, 0, 0) = (0, 0, F (pq + (1 + b)), 0) := by rw [he, show 2 + 2 * b = 2 * b + 1 + 1 by omega]; exact x1
    have y2 : (emU F P s0 t0 K U W u r).getD (2 + 2 * b + 1) (0, 0, 0, 0) = (15, 304, 2, 16) := by rw [he, show 2 + 2 * b + 1 = 2 * b + 1 + 1 + 1 by omega]; exact x2
    have e1 := fetch4 (m := 2 + 2 * b) g1 hu hi hr (by omega) y1 (by simp) (by simp) (by simp) (by simp)
    have e2 := fetch4 (m := 2 + 2 * b + 1) g1 hu hi hr (by omega) y2 (by simp) (by simp) (by simp) (by simp)
    -- PUSH
    obtain ⟨s1, d1, d2, d3⟩ := c_push (s := up q 51 7 ((cpo F P s0 t0 K U W A u i + (2 + 2 * b + 1) : Nat) : Int)) (a := 0) (b := F (pq + (1 + b))) (c := 0) (v := F (pq + (1 + b))) (STK_of sq (up_ne (by omega)) (funext fun k => up_ne (by omega))) (by rw [List.length_append, List.length_singleton]; omega) ⟨by rw [up_ne (by omega)]; exact go.1, by rw [up_ne (by omega)]; exact l9⟩ v_con
    have tn1 := stepy (m := 2 + 2 * b) (rr := 0) h hr m2 m4 (by omega) cq (by omega) y1 (by rw [e1]; exact d1)
    have cy1 : CYx sB s1 (cpo F P s0 t0 K U W A u i + (2 + 2 * b + 1)) := ⟨fun c j z0 z1 z2 => by rw [d3 c j z1 (by omega), up_ne (by omega)]; exact cq.1 c j z0 z1 z2, by rw [d3 51 7 (by omega) (by omega), up_same]⟩
    -- CALL String.appendChar
    obtain ⟨s2, hs2⟩ : ∃ s2, s2 = up s1 51 7 ((cpo F P s0 t0 K U W A u i + (2 + 2 * b + 1 + 1) : Nat) : Int) := ⟨_, rfl⟩
    have f2 : ∀ c k, c ≠ 52 → ¬ (c = 51 ∧ (k = 6 ∨ k = 7)) → s2 c k = q c k := fun c k z1 z2 => by rw [hs2, up_ne (by omega), d3 c k z1 (by omega), up_ne (by omega)]
    have st2 : STK s2 (LL ++ [a, F (pq + (1 + b))]) := by rw [hs2]; rw [List.append_assoc] at d2; exact STK_of d2 (up_ne (by omega)) (funext fun k => up_ne (by omega))
    have lb2 : LB s2 tz := LB_of lb (fun c k z => f2 c k (by omega) (by omega)) (fun _ _ _ => rfl)
    have go2 : gO s2 tz := ⟨by rw [f2 44 5 (by omega) (by omega)]; exact go.1, go.2⟩
    have va : s2 52 LL.length = a := STK_at (k := 0) st2 (by simp)
    have vb : s2 52 (LL.length + 1) = F (pq + (1 + b)) := STK_at (k := 1) st2 (by simp)
    have ea : lib_perform 16 a (F (pq + (1 + b))) (s2 52 (LL.length + 2)) (s2 52 (LL.length + 3)) s2 = lib_appendChar a (F (pq + (1 + b))) s2 := by
      unfold lib_perform
      rw [gr (by omega)]
      simp only [Int.reduceEq, ↓reduceIte, bd_id]
    have R : ∀ ty rz, m_append a (F (pq + (1 + b))) tz = some (rz, ty) → m_stringItem_13 ((stA A u + i : Nat) : Int) a (b : Int) tz = m_stringItem_13 ((stA A u + i : Nat) : Int) a ((b + 1 : Nat) : Int) ty := fun ty rz e => by
      unfold m_stringItem_13
      rw [lp_next (f := fun l : Int × iS => m_stringItem_13b ((stA A u + i : Nat) : Int) a (l.1) (l.2)) (l' := (((b + 1 : Nat) : Int), ty)) (by
        show m_stringItem_13b ((stA A u + i : Nat) : Int) a (b : Int) tz = _
        unfold m_stringItem_13b
        rw [gd_pos (by omega), Int.toNat_natCast, ft 146 _ (by omega) (by omega) (by omega) (by omega) (by omega), h146, gr (by omega), gr (by omega), if_neg (by omega), go.2, gr (by omega), if_pos rfl, ft 170 _ (by omega) (by omega) (by omega) (by omega) (by omega), h170, gd_pos (by omega), show ((pq : Int) + 1 + (b : Int)).toNat = pq + 1 + b by omega, ft 171 _ (by omega) (by omega) (by omega) (by omega) (by omega), h171 b (by omega), show pq + 1 + b = pq + (1 + b) by omega, e, bq, show (b : Int) + 1 = ((b + 1 : Nat) : Int) by omega])]
    have rxa : ∀ {rz ty}, m_append a (F (pq + (1 + b))) tz = some (rz, ty) → LRx tz ty := fun e c k h1 h2 h3 h4 h5 => (show md L_m_append G_m_append tz _ from fm_append _ _ _ _ e) c k (by simp [L_m_append]; omega) (by simp [G_m_append]; omega)
    rcases ap_ok1 (b := F (pq + (1 + b))) lb2 go2 ha with ⟨rv, rz, sx, ty, p1, p2, p3, p4, p5⟩ | ⟨rv, rz, sx, ty, p1, p2, p3, p4, p5⟩
    · have cx : LCx s2 sx := pe_cx (ea.trans p1)
      have x9 : sx 48 9 = 0 := by
        have : sx 48 9 = s2 48 9 := fr9 rfl (show md L_lib_appendChar G_lib_appendChar s2 sx from flib_appendChar _ _ _ _ p1)
        rw [this, f2 48 9 (by omega) (by omega)]; exact l9
      have cc := c_cal2 (v2 := 304) (kk := 16) (rv := rv) (sa := sx) (B := [a, F (pq + (1 + b))]) st2 (by simp) (by rw [List.length_append]; show LL.length + 2 ≤ _; omega) (by omega) (by rw [va, vb, ea]; exact p1) (cx 51 6 (by omega))
      obtain ⟨s4, k1, k2, k3⟩ := push_ex (v := rv) (STK_cut (sa := sx) st2 (funext fun k => cx 52 k (by omega))) (by omega)
      rw [p3.1] at k2
      have f4 : ∀ c k, ¬ (44 ≤ c ∧ c ≤ 49) → c ≠ 52 → ¬ (c = 51 ∧ k = 6) → s4 c k = s2 c k := fun c k z0 z1 z2 => by rw [k3 c k z1 z2, up_ne z2, cx c k z0]
      have tn2 := stepy (m := 2 + 2 * b + 1) (rr := 0) (s1 := s4) h hr m2 m4 (by omega) cy1 (by omega) y2 (by
        rw [e2, ← hs2]
        refine cc.trans ?_
        rw [k1, bq, d258 (by rw [k3 44 5 (by omega) (by omega), up_ne (by omega)]; exact p5.1) (by rw [k3 48 9 (by omega) (by omega), up_ne (by omega)]; exact x9)])
      have cy4 : CYx sB s4 (cpo F P s0 t0 K U W A u i + (2 + 2 * (b + 1))) := ⟨fun c j z0 z1 z2 => by rw [f4 c j z0 z1 (by omega), f2 c j z1 z2]; exact cq.1 c j z0 z1 z2, by rw [f4 51 7 (by omega) (by omega) (by omega), hs2, up_same]; congr 1⟩
      obtain ⟨m, s', t', i1, i2, i3, i4, i5, i6, i7⟩ := str_lp h hu hi hr m2 m4 he hz kI h146 h170 h171 ha hl d (b + 1) s4 ty (by omega) cy4 k2 (LB_of p4 (fun c k z => by rw [k3 c k (by omega) (by omega), up_ne (by omega)]) (fun _ _ _ => rfl)) ⟨by rw [k3 44 5 (by omega) (by omega), up_ne (by omega)]; exact p5.1, p5.2⟩ (by rw [k3 48 9 (by omega) (by omega), up_ne (by omega)]; exact x9) (fun c k z1 z2 z3 z4 z5 => by rw [rxa p2 c k z1 z2 z3 z4 (by omega)]; exact ft c k z1 z2 z3 z4 z5)
      refine ⟨1 + 1 + m, s', t', TN_add (TN_add tn1 tn2) i1, by omega, by rw [R ty rz p2]; exact i3, i4, fun c k z1 z2 z3 z4 z5 => by rw [i5 c k z1 z2 z3 z4 z5]; exact rxa p2 c k z1 z2 z3 z4 z5, i6, ?_⟩
      rcases i7 with ⟨j1, j2, j3⟩ | j1
      · exact Or.inl ⟨j1, by omega, j3⟩
      · exact Or.inr j1
    · have cx : LCx s2 sx := pe_cx (ea.trans p1)
      have cc := c_cal2 (v2 := 304) (kk := 16) (rv := rv) (sa := sx) (B := [a, F (pq + (1 + b))]) st2 (by simp) (by rw [List.length_append]; show LL.length + 2 ≤ _; omega) (by omega) (by rw [va, vb, ea]; exact p1) (cx 51 6 (by omega))
      obtain ⟨s4, k1, k2, k3⟩ := push_ex (v := rv) (STK_cut (sa := sx) st2 (funext fun k => cx 52 k (by omega))) (by omega)
      have tn2 := stepy (m := 2 + 2 * b + 1) (rr := 0) (s1 := up s4 51 14 3) h hr m2 m4 (by omega) cy1 (by omega) y2 (by
        rw [e2, ← hs2]
        refine cc.trans ?_
        rw [k1, bq, d258_f (by rw [k3 44 5 (by omega) (by omega), up_ne (by omega)]; exact p5.1)])
      refine ⟨1 + 1, up s4 51 14 3, ty, TN_add tn1 tn2, by omega, ?_, LB_of p4 (fun c k z => by rw [up_ne (by omega), k3 c k (by omega) (by omega), up_ne (by omega)]) (fun _ _ _ => rfl), rxa p2, fun k hk => by rw [up_ne (by omega), k3 51 k (by omega) (by omega), up_ne (by omega), cx 51 k (by omega), f2 51 k (by omega) (by omega)]; exact cq.1 51 k (by omega) (by omega) (by omega), Or.inr ⟨up_same _ _ _ _, p5.2⟩⟩
      rw [R ty rz p2]
      unfold m_stringItem_13
      rw [lp_end (f := fun l : Int × iS => m_stringItem_13b ((stA A u + i : Nat) : Int) a (l.1) (l.2)) (e := ty) (by
        show m_stringItem_13b ((stA A u + i : Nat) : Int) a ((b + 1 : Nat) : Int) ty = _
        unfold m_stringItem_13b
        rw [gd_pos (by omega), Int.toNat_natCast, rxa p2 146 _ (by omega) (by omega) (by omega) (by omega) (by omega), ft 146 _ (by omega) (by omega) (by omega) (by omega) (by omega), h146, gr (by omega), gr (by omega)]
        by_cases c : (z : Int) ≤ ((b + 1 : Nat) : Int)
        · rw [if_pos c]
        · rw [if_neg c, p5.2, gr (by omega), if_neg (by omega)])]
      rfl
end ROc
