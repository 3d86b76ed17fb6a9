/-! both machines: items with an effect; items that fail -/
/-- what an effect leaves as it was -/
def LCx (s s' : iS) : Prop := ∀ c k, ¬ (44 ≤ c ∧ c ≤ 49) → s' c k = s c k
def LRx (t t' : iS) : Prop := ∀ c k, c ≠ 175 → c ≠ 176 → c ≠ 177 → c ≠ 187 → ¬ (c = 121 ∧ (k = 81 ∨ k = 99 ∨ k = 100 ∨ k = 103 ∨ k = 106 ∨ k = 108)) → t' c k = t c k
section RNn
variable {F : Nat → Int} {n N : Nat} {P : Nat → Nat} {s0 t0 : iS} {K : List Nat} {U : List urec} {W : List wrec} {Y : List Nat} {A : List (List itm)} {I C p w u i fu m : Nat} {tr t1 t2 t3 s s' t t' q qB sB s1 : iS} {r : itm} {x : crc} {f : frm} {g : List frm} {pv vv st pv' vv' st' : List Int} {ob v v' : Int}
theorem rd_cx {a v : Int} (e : mem_read a s = some (v, s')) : LCx s s' := fun c k h => (show md L_mem_read G_mem_read s s' from fmem_read _ _ _ e) c k (by simp [L_mem_read]) (by simp [G_mem_read]; omega)
theorem wr_cx {a b v : Int} (e : mem_write a b s = some (v, s')) : LCx s s' := fun c k h => (show md L_mem_write G_mem_write s s' from fmem_write _ _ _ _ e) c k (by simp [L_mem_write]; omega) (by simp [G_mem_write]; omega)
theorem pe_cx {a b c d n v : Int} (e : lib_perform n a b c d s = some (v, s')) : LCx s s' := fun c k h => (show md L_lib_perform G_lib_perform s s' from flib_perform _ _ _ _ _ _ _ e) c k (by simp [L_lib_perform]; omega) (by simp [G_lib_perform]; omega)
theorem rd_rx {a v : Int} (e : m_read a t = some (v, t')) : LRx t t' := fun c k h1 h2 h3 h4 h5 => (show md L_m_read G_m_read t t' from fm_read _ _ _ e) c k (by simp [L_m_read]) (by simp [G_m_read]; omega)
theorem wr_rx {a b v : Int} (e : m_write a b t = some (v, t')) : LRx t t' := fun c k h1 h2 h3 h4 h5 => (show md L_m_write G_m_write t t' from fm_write _ _ _ _ e) c k (by simp [L_m_write]; omega) (by simp [G_m_write]; omega)
theorem sc_rx {a b v : Int} (e : m_systemCall a b t = some (v, t')) : LRx t t' := fun c k h1 h2 h3 h4 h5 => (show md L_m_systemCall G_m_systemCall t t' from fm_systemCall _ _ _ _ e) c k (by simp [L_m_systemCall]; omega) (by simp [G_m_systemCall]; omega)
theorem rd_9 {a v : Int} (e : mem_read a s = some (v, s')) : s' 48 9 = s 48 9 := rd9 _ _ e
theorem wr_9 {a b v : Int} (e : mem_write a b s = some (v, s')) : s' 48 9 = s 48 9 := fr9 rfl (show md L_mem_write G_mem_write s s' from fmem_write _ _ _ _ e)
/-- the place of the statement that is open -/
theorem SIM_pl (h : SIM F P s0 t0 K U W A t3 fu s t (u, i, pv, vv, st, ob) g) {w : Nat} {ws : List Nat} (hw : (aA F P s0 t0 K U W A u i).2.1 = w :: ws) : 1 ≤ t 121 95 ∧ t 185 (t 121 95 - 1).toNat = (P w : Int) := by
  obtain ⟨-, -, -, ⟨g8, g9⟩, -⟩ := h
  have e : wsG F P s0 t0 K U W A ((u, i, pv, vv, st, ob) :: g) = wsG F P s0 t0 K U W A g ++ (ws.reverse ++ [w]) := by
    show wsG F P s0 t0 K U W A g ++ (aA F P s0 t0 K U W A u i).2.1.reverse = _
    rw [hw, List.reverse_cons]
  rw [e, List.length_append, List.length_append, List.length_singleton] at g8 g9
  refine ⟨by omega, ?_⟩
  have z : (t 121 95 - 1).toNat = (wsG F P s0 t0 K U W A g).length + ws.reverse.length := by omega
  rw [z, g9 _ (by omega), ← List.append_assoc, List.getD_eq_getElem?_getD, List.getElem?_append_right (by rw [List.length_append]; omega), List.length_append]
  simp
/-- how many statements are open -/
theorem G_ws (hP : PRG F n N P s0 t0 K U W Y A I C p w tr t1 t2 t3) : ∀ (g : List frm), GOK F P s0 t0 K U W A s t g → (wsG F P s0 t0 K U W A g).length ≤ 29 * g.length
  | [], _ => Nat.le_refl _
  | f :: g, ⟨h1, h2⟩ => by
    have ih := G_ws hP g h2
    have rq := (rq_at hP h1.1.1 h1.1.2).2.2.2.2.2.2.2.1
    show (wsG F P s0 t0 K U W A g ++ (aA F P s0 t0 K U W A f.1 f.2.1).2.1.reverse).length ≤ 29 * (g.length + 1)
    rw [List.length_append, List.length_reverse]
    omega
/-- both have ended at a statement -/
theorem FIN_mk (hP : PRG F n N P s0 t0 K U W Y A I C p w tr t1 t2 t3) (h : SIM F P s0 t0 K U W A t3 fu s t (u, i, pv, vv, st, ob) g) {w : Nat} {ws : List Nat} (hw : (aA F P s0 t0 K U W A u i).2.1 = w :: ws) (h14 : s' 51 14 = t' 121 99 ∧ 0 ≤ s' 51 14 ∧ s' 51 14 ≤ 3) (hL : LB s' t') (h16 : s' 51 16 = t' 121 96 ∧ 0 ≤ s' 51 16 ∧ s' 51 16 ≤ (fu : Int)) (h17 : s' 51 17 = s 51 17 ∧ t' 121 89 = t 121 89) (h95 : t' 121 95 = t 121 95 ∧ t' 185 = t 185) (h18 : s' 51 18 = (P w : Int)) : FIN fu s' t' := by
  obtain ⟨p1, p2⟩ := SIM_pl h hw
  have hu : u < A.length ∧ i < (A.getD u []).length := h.2.1.1.1
  have wN := (aA_ws hP hu.1 i (by omega)).1 w (by rw [hw]; exact List.mem_cons_self)
  have pw := PRG_P hP wN
  have gw := G_ws hP _ h.2.1
  obtain ⟨-, -, -, ⟨g8, g9⟩, ⟨k1, k2, k3, k4, k5, k6⟩, -⟩ := h
  have : ((u, i, pv, vv, st, ob) :: g).length = g.length + 1 := rfl
  refine ⟨h14, hL, h16.1, h16.2, by rw [h17.1, h17.2]; exact k4, by rw [h17.1]; exact ⟨k5, k6⟩, fun _ => ?_⟩
  rw [h95.1, h95.2, if_neg (by omega), p2, h18]
  omega
/-- an item with an effect -/
theorem STP_go (hP : PRG F n N P s0 t0 K U W Y A I C p w tr t1 t2 t3) (h : SIM F P s0 t0 K U W A t3 fu s t (u, i, pv, vv, st, ob) g) (hr : (A.getD u []).getD i (0, 0, 0, 0) = r) (hk : (r.1 = 9 → e0U F P s0 t0 K U W u r = false) ∧ r.1 ≠ 11 ∧ r.1 ≠ 12 ∧ r.1 ≠ 17 ∧ r.1 ≠ 18)
    (m2 : sB 51 16 = t 121 96) (m3 : s 51 16 ≤ sB 51 16) (m4 : ∀ c k, ¬ (c = 51 ∧ (k = 16 ∨ k = 18)) → sB c k = s c k) (m5 : (aA F P s0 t0 K U W A u i).2.2.1 = true → ∃ w ws, (aA F P s0 t0 K U W A u i).2.1 = w :: ws ∧ sB 51 18 = (P w : Int))
    (hT : TN (emU F P s0 t0 K U W u r).length s s') {rr : Int} (hR : m_doItem t = some (rr, t'))
    (fs : ∀ c k, ¬ (44 ≤ c ∧ c ≤ 49) → c ≠ 52 → c ≠ 54 → ¬ (c = 51 ∧ (k = 6 ∨ k = 7 ∨ k = 11 ∨ k = 12)) → s' c k = sB c k)
    (ft : ∀ c k, c ≠ 175 → c ≠ 176 → c ≠ 177 → c ≠ 187 → c ≠ 188 → c ≠ 180 → c ≠ 178 → c ≠ 179 → ¬ (c = 121 ∧ (k = 81 ∨ k = 99 ∨ k = 100 ∨ k = 103 ∨ k = 106 ∨ k = 108 ∨ k = 87 ∨ k = 98)) → t' c k = t c k)
    (hL : LB s' t' ∧ gO s' t' ∧ s' 48 9 = 0) (hpc : s' 51 7 = ((cpo F P s0 t0 K U W A u i + (emU F P s0 t0 K U W u r).length : Nat) : Int)) (h98 : t' 121 98 = t 121 98 + 1)
    (hwl : pv'.length = pv.length ∧ vv'.length = vv.length) (hw : (∀ x ∈ pv', w16 x) ∧ (∀ x ∈ vv', w16 x) ∧ (∀ x ∈ st', w16 x))
    (h179 : ∀ k, k < 24 * g.length → t' 179 k = t 179 k) (hpv : ∀ k, k < pv'.length → t' 179 (24 * g.length + k) = pv'.getD k 0) (hvv : ∀ k, k < vv'.length → t' 179 (24 * g.length + 12 + k) = vv'.getD k 0)
    (hST : STK s' (csG U g ++ (preF U (u, i, pv, vv, st, ob) ++ pv' ++ vv' ++ st'))) (hRT : RTK t' (rsG g ++ st')) (hst : ∀ k, k < 12 → s' 54 k = t' 178 k ∧ w16 (s' 54 k))
    (hlen : st'.length = (nxA P (obF F P t0 U W u) (e0U F P s0 t0 K U W u) (aA F P s0 t0 K U W A u i) r).1) : STP F P s0 t0 K U W A t3 fu s t ((u, i, pv, vv, st, ob) :: g) := by
  obtain ⟨k9, k11, k12, k17, k18⟩ := hk
  have h' := h
  obtain ⟨-, ⟨⟨⟨b1, b1'⟩, -, ⟨b3, b3', -⟩, b4, b5, -⟩, -⟩, -, -, -, -, st1, ⟨l1, l2, l3, l4⟩, ⟨n1, n2, n3, n4, n5, n6⟩, ⟨e98, e7⟩, -, -⟩ := h'
  dsimp only at b1 b1' b3 b3' b4 b5 e98 e7
  have hi1 := i_next hP b1 b1' hr k18
  have fss : ∀ c k, ¬ (44 ≤ c ∧ c ≤ 49) → c ≠ 52 → c ≠ 54 → ¬ (c = 51 ∧ (k = 6 ∨ k = 7 ∨ k = 11 ∨ k = 12 ∨ k = 16 ∨ k = 18)) → s' c k = s c k := fun c k z0 z1 z3 z2 => by
    rw [fs c k z0 z1 z3 (by omega), m4 c k (by omega)]
  have e18 : s' 51 18 = sB 51 18 := fs 51 18 (by omega) (by omega) (by omega) (by omega)
  have e16 : s' 51 16 = t 121 96 := (fs 51 16 (by omega) (by omega) (by omega) (by omega)).trans m2
  have f121 : ∀ k, k = 88 ∨ k = 89 ∨ k = 95 ∨ k = 96 ∨ k = 97 → t' 121 k = t 121 k := fun k z => ft 121 k (by omega) (by omega) (by omega) (by omega) (by omega) (by omega) (by omega) (by omega) (by omega)
  have hS : SIM F P s0 t0 K U W A t3 fu s' t' (u, i + 1, pv', vv', st', ob) g := by
    refine SIM_adv hP h hi1 hwl hw (fun c k z => fss c k (by omega) (by omega) (by omega) (by omega)) (fun k z => fss 51 k (by omega) (by omega) (by omega) (by omega)) (fun c k z => ft c k (by omega) (by omega) (by omega) (by omega) (by omega) (by omega) (by omega) (by omega) (by omega)) f121 h179 hpv hvv hST hRT hst ⟨hL.1, hL.2.1, hL.2.2, by rw [fss 51 14 (by omega) (by omega) (by omega) (by omega)]; exact l4⟩ e16 ?_ ?_ (by rw [aA_n b1' hr]; exact hlen) (aA_w b1' hr k11 k12 k18) (aA_p hP b1 b1' hr k9 k11 k12 k17) (fun z => ?_)
    · rw [hpc, cpo_s b1', hr]
    · rw [h98, e98]; omega
    · obtain ⟨w, ws, v1, v2⟩ := m5 (aA_f b1' hr k11 k17 z)
      exact ⟨w, ws, v1, by rw [e18]; exact v2⟩
  exact STP_mk h hr hi1 rfl hT (run_nx l2.2 hR) (f121 96 (by omega)) hS ⟨by omega, by omega⟩
/-- an item that fails -/
theorem STP_fl (hP : PRG F n N P s0 t0 K U W Y A I C p w tr t1 t2 t3) (h : SIM F P s0 t0 K U W A t3 fu s t (u, i, pv, vv, st, ob) g) (hf : (aA F P s0 t0 K U W A u i).2.2.1 = true)
    (m2 : sB 51 16 = t 121 96) (m3 : s 51 16 ≤ sB 51 16) (m4 : ∀ c k, ¬ (c = 51 ∧ (k = 16 ∨ k = 18)) → sB c k = s c k) (m5 : (aA F P s0 t0 K U W A u i).2.2.1 = true → ∃ w ws, (aA F P s0 t0 K U W A u i).2.1 = w :: ws ∧ sB 51 18 = (P w : Int))
    (hm : m ≤ 3000) (hT : TN m s s') {rr : Int} (hR : m_doItem t = some (rr, t'))
    (fs : ∀ k, k = 16 ∨ k = 17 ∨ k = 18 → s' 51 k = sB 51 k) (h14 : s' 51 14 = t' 121 99 ∧ 0 ≤ s' 51 14 ∧ s' 51 14 ≤ 3)
    (ft : ∀ k, k = 74 ∨ k = 89 ∨ k = 95 ∨ k = 96 → t' 121 k = t 121 k) (ft5 : t' 185 = t 185) (hL : LB s' t') : STP F P s0 t0 K U W A t3 fu s t ((u, i, pv, vv, st, ob) :: g) := by
  obtain ⟨w, ws, v1, v2⟩ := m5 hf
  have h' := h
  obtain ⟨-, -, -, -, -, -, -, ⟨l1, l2, l3, l4⟩, ⟨n1, n2, n3, n4, n5, n6⟩, -, -, -⟩ := h'
  have e16 : s' 51 16 = t 121 96 := (fs 16 (by omega)).trans m2
  have fin := FIN_mk (s' := s') (t' := t') hP h v1 h14 hL ⟨by rw [e16, ft 96 (by omega)], by omega, by omega⟩ ⟨by rw [fs 17 (by omega), m4 51 17 (by omega)], ft 89 (by omega)⟩ ⟨ft 95 (by omega), ft5⟩ (by rw [fs 18 (by omega)]; exact v2)
  have e96 := ft 96 (by omega)
  refine ⟨m, s', t', hT, run_nx l2.2 hR, ⟨by omega, by omega⟩, Or.inr ⟨fin, ft 74 (by omega), ?_⟩⟩
  have : 0 ≤ (rmC F P s0 t0 K U W A ((u, i, pv, vv, st, ob) :: g) : Int) := Int.natCast_nonneg _
  omega
end RNn
