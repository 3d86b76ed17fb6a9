/-! the whole relation: what is kept, and by whom -/
def QE (s : iS) : Prop := FT s ∧ RK s
def QY (s : iS) : Prop := BY (s 123)
def QB (T : Nat) (s : iS) : Prop := QBd T s s
theorem QE_on : on [57, 58, 60, 61, 63, 64, 66, 67, 68] [(56, 2), (59, 2), (62, 2), (65, 2)] QE := by
  intro s s' h1 h2 h
  have r : ∀ c, c ∈ [57, 58, 60, 61, 63, 64, 66, 67, 68] → s' c = s c := h1
  have p : ∀ q, q ∈ [(56, 2), (59, 2), (62, 2), (65, 2)] → s' q.1 q.2 = s q.1 q.2 := h2
  have p1 := p (56, 2) (by decide)
  have p2 := p (59, 2) (by decide)
  have p3 := p (62, 2) (by decide)
  have p4 := p (65, 2) (by decide)
  simp only at p1 p2 p3 p4
  unfold QE FT TB RK at h ⊢
  rw [p1, p2, p3, p4, r 57 (by decide), r 58 (by decide), r 60 (by decide), r 61 (by decide), r 63 (by decide), r 64 (by decide), r 66 (by decide), r 67 (by decide), r 68 (by decide)]
  exact h
theorem QY_on : on [123] [] QY := by
  intro s s' h1 _ h
  unfold QY at h ⊢
  rw [h1 123 (by decide)]
  exact h
theorem QHr_on : on [220, 221] [] QHr := by
  intro s s' h1 _ h
  unfold QHr at h ⊢
  rw [h1 220 (by decide), h1 221 (by decide)]
  exact h
theorem QHc_st {s s' : iS} (h : QHc s) (e : ∀ c k, c = 71 ∨ c = 72 ∨ c = 73 ∨ c = 74 ∨ c = 76 ∨ c = 77 ∨ c = 78 ∨ c = 79 ∨ c = 80 ∨ c = 81 ∨ c = 87 ∨ c = 91 ∨ c = 92 ∨ c = 93 → s' c k = s c k) (e9 : s' 99 2 = s 99 2) : QHc s' := ⟨SZc_of h.1 (fun c k z => e c k (by omega)), GRo_st h.2.1 (fun c k z1 z2 => e c k (by omega)), by rw [e9]; exact h.2.2⟩
theorem QHc_on : on [71, 72, 73, 74, 76, 77, 78, 79, 80, 81, 87, 91, 92, 93] [(99, 2)] QHc := by
  intro s s' h1 h2 h
  refine QHc_st h (fun c k z => ?_) (h2 (99, 2) (by decide))
  have key : ∀ x : Fin 100, (x.val = 71 ∨ x.val = 72 ∨ x.val = 73 ∨ x.val = 74 ∨ x.val = 76 ∨ x.val = 77 ∨ x.val = 78 ∨ x.val = 79 ∨ x.val = 80 ∨ x.val = 81 ∨ x.val = 87 ∨ x.val = 91 ∨ x.val = 92 ∨ x.val = 93) → x.val ∈ [71, 72, 73, 74, 76, 77, 78, 79, 80, 81, 87, 91, 92, 93] := by decide +kernel
  rw [h1 c (key ⟨c, by omega⟩ z)]
theorem QB_on (T : Nat) : on [72, 76, 77, 91, 108, 112, 113, 114, 115, 116, 117, 196, 197, 199, 222, 223, 224, 225, 226, 227, 228, 229, 230] [(121, 122), (121, 152), (121, 158), (121, 161), (121, 166), (121, 173), (121, 174)] (QB T) := by
  intro s s' h1 h2 h
  have r : ∀ c ∈ [72, 76, 77, 91, 108, 112, 113, 114, 115, 116, 117, 196, 197, 199, 222, 223, 224, 225, 226, 227, 228, 229, 230], s' c = s c := h1
  have p : ∀ q ∈ [(121, 122), (121, 152), (121, 158), (121, 161), (121, 166), (121, 173), (121, 174)], s' q.1 q.2 = s q.1 q.2 := h2
  rcases h with ⟨a1, a2, a3, a4⟩ | ⟨n, m, nin, nout, g, d, ob, wd, lc, pf, pf', O, O', h1, h2, h3, h4, h5, h6, h7⟩
  · exact Or.inl ⟨by rw [r 108 (by decide)]; exact a1, by rw [p (121, 152) (by decide)]; exact a2, by rw [p (121, 174) (by decide)]; exact a3, by rw [p (121, 174) (by decide)]; exact a4⟩
  · have key : ∀ x : Fin 300, (222 ≤ x.val ∧ x.val ≤ 230) → x.val ∈ [72, 76, 77, 91, 108, 112, 113, 114, 115, 116, 117, 196, 197, 199, 222, 223, 224, 225, 226, 227, 228, 229, 230] := by decide +kernel
    have rt : ∀ c, 222 ≤ c → c ≤ 230 → s' c = s c := fun c c1 c2 => r c (key ⟨c, by omega⟩ ⟨c1, c2⟩)
    refine Or.inr ⟨n, m, nin, nout, g, d, ob, wd, lc, pf, pf', O, O', BSt_of h1 ⟨by rw [r 108 (by decide)], r 113 (by decide), r 114 (by decide)⟩ ⟨p (121, 161) (by decide), p (121, 158) (by decide), fun c c1 c2 => rt c (by omega) (by omega)⟩, PNs_of h2 ⟨by rw [r 72 (by decide)], r 76 (by decide), r 77 (by decide), r 91 (by decide)⟩ ⟨p (121, 122) (by decide), p (121, 174) (by decide), r 196 (by decide), r 197 (by decide), r 199 (by decide)⟩, ORd_of h3 ⟨by rw [r 108 (by decide)], r 113 (by decide), r 114 (by decide), r 116 (by decide), r 117 (by decide)⟩ ⟨p (121, 166) (by decide), fun c c1 c2 => rt c (by omega) (by omega)⟩, ?_, ?_, ⟨by rw [r 108 (by decide)]; exact h6.1, by rw [p (121, 152) (by decide)]; exact h6.2⟩, by rw [r 108 (by decide), p (121, 173) (by decide)]; exact h7⟩
    · unfold VAL at h4 ⊢
      rw [r 112 (by decide), rt 223 (by omega) (by omega), rt 230 (by omega) (by omega)]
      exact h4
    · intro k i k1 i1
      obtain ⟨m', b, a1, a2⟩ := h5 k i k1 i1
      refine ⟨m', b, TRr_of (rt 222 (by omega) (by omega)) (rt 223 (by omega) (by omega)) _ _ a1, ?_⟩
      rw [r 115 (by decide)]
      unfold SGr at a2 ⊢
      rw [rt 223 (by omega) (by omega)]
      exact a2
theorem QG_on : on [15, 16, 17, 18, 19, 128, 129, 130, 131, 132, 133, 134, 135, 136, 137, 138, 139, 140, 141, 142, 143, 144, 145, 146, 147, 148, 149, 150, 151, 152, 153, 154, 155, 156, 169, 170, 171] [(0, 3), (14, 8), (14, 10), (14, 11), (121, 72), (121, 74)] QG := by
  intro s s' h1 h2 h q
  have r : ∀ c ∈ [15, 16, 17, 18, 19, 128, 129, 130, 131, 132, 133, 134, 135, 136, 137, 138, 139, 140, 141, 142, 143, 144, 145, 146, 147, 148, 149, 150, 151, 152, 153, 154, 155, 156, 169, 170, 171], s' c = s c := h1
  have p : ∀ q ∈ [(0, 3), (14, 8), (14, 10), (14, 11), (121, 72), (121, 74)], s' q.1 q.2 = s q.1 q.2 := h2
  have p0 : s' 0 3 = s 0 3 := p (0, 3) (by decide)
  have p1 : s' 14 8 = s 14 8 := p (14, 8) (by decide)
  have p2 : s' 14 10 = s 14 10 := p (14, 10) (by decide)
  have p3 : s' 14 11 = s 14 11 := p (14, 11) (by decide)
  have p4 : s' 121 72 = s 121 72 := p (121, 72) (by decide)
  have p5 : s' 121 74 = s 121 74 := p (121, 74) (by decide)
  rw [p0] at q
  obtain ⟨F, n, N, P, s0, t0, K, U, W, Y, A, I, C, p, w, tr, t1, t2, t3, b1, b2, b3, b4, b5, b6, b7, b8, b9, b10, b11, b12, b13, b14, b15⟩ := h q
  refine ⟨F, n, N, P, s0, t0, K, U, W, Y, A, I, C, p, w, tr, t1, t2, t3, b1, b2, b3, b4, b5, b6, b7, b8, b9, b10, ?_, by rw [p3]; exact b12, fun c k z => ?_, by rw [p4]; exact b14, by rw [p5]; exact b15⟩
  · unfold CPG at b11 ⊢
    rw [p1, p2, r 15 (by decide), r 16 (by decide), r 17 (by decide), r 18 (by decide), r 19 (by decide)]
    exact b11
  · have key : ∀ x : Fin 200, (128 ≤ x.val ∧ x.val ≤ 156 ∨ 169 ≤ x.val ∧ x.val ≤ 171) → x.val ∈ [15, 16, 17, 18, 19, 128, 129, 130, 131, 132, 133, 134, 135, 136, 137, 138, 139, 140, 141, 142, 143, 144, 145, 146, 147, 148, 149, 150, 151, 152, 153, 154, 155, 156, 169, 170, 171] := by decide +kernel
    rw [r c (key ⟨c, by omega⟩ z)]
    exact b13 c k z
def QQ (n : Nat) (s : iS) : Prop := QT s ∧ QP s ∧ QO s ∧ QK s ∧ QM s ∧ QN s ∧ QC s ∧ QW s ∧ QR (20000 * (n : Int)) s ∧ QE s ∧ QL s ∧ QG s ∧ QY s ∧ QHc s ∧ QHr s ∧ QB n s
theorem QR_mo {B B' : Int} {s : iS} (h : QR B s) (hB : B ≤ B') : QR B' s := by
  obtain ⟨h1, h2, h3, h4, h5, h6, h7, h8, h9⟩ := h
  exact ⟨h1, h2, h3, h4, h5, h6, h7, ⟨h8.1, by omega⟩, h9⟩
theorem QB_mo {T T' : Nat} {s : iS} (h : QB T s) (hT : T ≤ T') : QB T' s := by
  rcases h with z | ⟨n, m, nin, nout, g, d, ob, wd, lc, pf, pf', O, O', h1, h2, h3, h4, h5, h6, h7, h8, h9⟩
  · exact Or.inl z
  · exact Or.inr ⟨n, m, nin, nout, g, d, ob, wd, lc, pf, pf', O, O', h1, h2, h3, h4, h5, h6, h7, h8, by omega⟩
theorem QB_mx {T : Nat} {s t : iS} (h : QB T (mx s t)) : QBd T s t := QBd_cg h (fun c k z => by rw [mx_c (by omega)]) (fun c k z => by rw [mx_r (by omega)])
theorem mx_QB {T : Nat} {s t : iS} (h : QBd T s t) : QB T (mx s t) := QBd_cg h (fun c k z => by rw [mx_c (by omega)]) (fun c k z => by rw [mx_r (by omega)])
theorem QHc_mx {s t : iS} (h : QHc (mx s t)) : QHc s := QHc_st h (fun c k z => by rw [mx_c (by omega)]) (by rw [mx_c (by omega)])
theorem mx_QHc {s t : iS} (h : QHc s) : QHc (mx s t) := QHc_st h (fun c k z => by rw [mx_c (by omega)]) (by rw [mx_c (by omega)])
theorem QHr_mx {s t : iS} (h : QHr (mx s t)) : QHr t := fun c hc => h c hc
theorem mx_QHr {s t : iS} (h : QHr t) : QHr (mx s t) := fun c hc => h c hc
theorem b01_rg {r : Int} (h : b01 r) : rg r := by
  rcases h with e | e <;> subst e <;> decide
theorem QQ_mo {n : Nat} {s : iS} (h : QQ n s) : QQ (n + 1) s := by
  obtain ⟨h1, h2, h3, h4, h5, h6, h7, h8, h9, h10, h11, h12, h13, h14, h15, h16⟩ := h
  exact ⟨h1, h2, h3, h4, h5, h6, h7, h8, QR_mo h9 (by omega), h10, h11, h12, h13, h14, h15, QB_mo h16 (by omega)⟩
theorem o_feed {n : Nat} (hn : n < 512) (a b c d e : Int) (ha : rg a) (hb : rg b) (hc : rg c) (hd : rg d) (he : rg e) : okI (x_feed a b c d e) (m_feed a b c d e) (QQ n) (QQ (n + 1)) := fun s0 hs0 => lock (V := fun r => rg r) (fun s => fx_feed a b c d e s) (fun s => fm_feed a b c d e s) rfl rfl (fun s t h => by
  have h0 := h
  obtain ⟨h1, h2, h3, h4, h5, h6, h7, h8, h9, h10, h11, h12, h13, h14, h15, h16⟩ := h
  obtain ⟨r, s', t', e1, e2, e3, k1⟩ := feed_ok a b c d e s t h1
  have mx' := fx_feed _ _ _ _ _ _ _ e1
  have mm' := fm_feed _ _ _ _ _ _ _ e2
  exact ⟨r, s', t', e1, e2, b01_rg e3, k1, pres QP_on rfl rfl mx' mm' h2, pres QO_on rfl rfl mx' mm' h3, pres QK_on rfl rfl mx' mm' h4, pres QM_on rfl rfl mx' mm' h5, pres QN_on rfl rfl mx' mm' h6, pres QC_on rfl rfl mx' mm' h7, pres QW_on rfl rfl mx' mm' h8, QR_mo (pres (QR_on _) rfl rfl mx' mm' h9) (by omega), pres QE_on rfl rfl mx' mm' h10, pres QL_on rfl rfl mx' mm' h11, pres QG_on rfl rfl mx' mm' h12, pres QY_on rfl rfl mx' mm' h13, pres QHc_on rfl rfl mx' mm' h14, pres QHr_on rfl rfl mx' mm' h15, QB_mo (pres (QB_on _) rfl rfl mx' mm' h16) (by omega)⟩) hs0
theorem o_load {n : Nat} (hn : n < 512) (a : Int) (ha : rg a) : okI (x_load a) (m_load a) (QQ n) (QQ (n + 1)) := fun s0 hs0 => lock (V := fun r => rg r) (fun s => fx_load a s) (fun s => fm_load a s) rfl rfl (fun s t h => by
  have h0 := h
  obtain ⟨h1, h2, h3, h4, h5, h6, h7, h8, h9, h10, h11, h12, h13, h14, h15, h16⟩ := h
  obtain ⟨r, s', t', e1, e2, e3, k1, k2, k3, k4, k5, k6⟩ := load_ok a ha s t h1 h2 h7 h11 h12 h13
  have mx' := fx_load _ _ _ e1
  have mm' := fm_load _ _ _ e2
  exact ⟨r, s', t', e1, e2, e3, k1, k2, pres QO_on rfl rfl mx' mm' h3, pres QK_on rfl rfl mx' mm' h4, pres QM_on rfl rfl mx' mm' h5, pres QN_on rfl rfl mx' mm' h6, k3, pres QW_on rfl rfl mx' mm' h8, QR_mo (pres (QR_on _) rfl rfl mx' mm' h9) (by omega), pres QE_on rfl rfl mx' mm' h10, k4, k5, k6, pres QHc_on rfl rfl mx' mm' h14, pres QHr_on rfl rfl mx' mm' h15, QB_mo (pres (QB_on _) rfl rfl mx' mm' h16) (by omega)⟩) hs0
theorem o_keys {n : Nat} (hn : n < 512) (a : Int) (ha : rg a) : okI (x_keys a) (m_keys a) (QQ n) (QQ (n + 1)) := fun s0 hs0 => lock (V := fun r => rg r) (fun s => fx_keys a s) (fun s => fm_keys a s) rfl rfl (fun s t h => by
  have h0 := h
  obtain ⟨h1, h2, h3, h4, h5, h6, h7, h8, h9, h10, h11, h12, h13, h14, h15, h16⟩ := h
  obtain ⟨r, s', t', e1, e2, e3, k1, k2⟩ := keys_ok a ha s t h1 h4
  have mx' := fx_keys _ _ _ e1
  have mm' := fm_keys _ _ _ e2
  exact ⟨r, s', t', e1, e2, b01_rg e3, k1, pres QP_on rfl rfl mx' mm' h2, pres QO_on rfl rfl mx' mm' h3, k2, pres QM_on rfl rfl mx' mm' h5, pres QN_on rfl rfl mx' mm' h6, pres QC_on rfl rfl mx' mm' h7, pres QW_on rfl rfl mx' mm' h8, QR_mo (pres (QR_on _) rfl rfl mx' mm' h9) (by omega), pres QE_on rfl rfl mx' mm' h10, pres QL_on rfl rfl mx' mm' h11, pres QG_on rfl rfl mx' mm' h12, pres QY_on rfl rfl mx' mm' h13, pres QHc_on rfl rfl mx' mm' h14, pres QHr_on rfl rfl mx' mm' h15, QB_mo (pres (QB_on _) rfl rfl mx' mm' h16) (by omega)⟩) hs0
theorem o_run {n : Nat} (hn : n < 512) (a : Int) (ha : rg a) : okI (x_run a) (m_run a) (QQ n) (QQ (n + 1)) := fun s0 hs0 => lock (V := fun r => rg r) (fun s => fx_run a s) (fun s => fm_run a s) rfl rfl (fun s t h => by
  have h0 := h
  obtain ⟨h1, h2, h3, h4, h5, h6, h7, h8, h9, h10, h11, h12, h13, h14, h15, h16⟩ := h
  obtain ⟨r, s', t', e1, e2, e3, k1, k2, k3, k4, k5⟩ := run_ok a ha s t h2 h3 h4 h5 h6 h7 h11 h12
  have mx' := fx_run _ _ _ e1
  have mm' := fm_run _ _ _ e2
  exact ⟨r, s', t', e1, e2, e3, pres QT_on rfl rfl mx' mm' h1, k1, k2, k3, k4, k5, pres QC_on rfl rfl mx' mm' h7, pres QW_on rfl rfl mx' mm' h8, QR_mo (pres (QR_on _) rfl rfl mx' mm' h9) (by omega), pres QE_on rfl rfl mx' mm' h10, pres QL_on rfl rfl mx' mm' h11, pres QG_on rfl rfl mx' mm' h12, pres QY_on rfl rfl mx' mm' h13, pres QHc_on rfl rfl mx' mm' h14, pres QHr_on rfl rfl mx' mm' h15, QB_mo (pres (QB_on _) rfl rfl mx' mm' h16) (by omega)⟩) hs0
theorem o_place {n : Nat} (hn : n < 512)  : okI (x_place) (m_place) (QQ n) (QQ (n + 1)) := fun s0 hs0 => lock (V := fun r => rg r) (fun s => fx_place s) (fun s => fm_place s) rfl rfl (fun s t h => by
  have h0 := h
  obtain ⟨h1, h2, h3, h4, h5, h6, h7, h8, h9, h10, h11, h12, h13, h14, h15, h16⟩ := h
  obtain ⟨r, e1, e2, e3⟩ := place_ok s t h2
  exact ⟨r, s, t, e1, e2, e3, QQ_mo h0⟩) hs0
theorem o_error {n : Nat} (hn : n < 512)  : okI (x_error) (m_error) (QQ n) (QQ (n + 1)) := fun s0 hs0 => lock (V := fun r => rg r) (fun s => fx_error s) (fun s => fm_error s) rfl rfl (fun s t h => by
  have h0 := h
  obtain ⟨h1, h2, h3, h4, h5, h6, h7, h8, h9, h10, h11, h12, h13, h14, h15, h16⟩ := h
  obtain ⟨r, e1, e2, e3⟩ := error_ok s t h5
  exact ⟨r, s, t, e1, e2, e3, QQ_mo h0⟩) hs0
theorem o_fetch {n : Nat} (hn : n < 512)  : okL (x_fetch) (m_fetch) (QQ n) (QQ (n + 1)) := fun s0 hs0 => lock (V := fun _ => True) (fun s => fx_fetch s) (fun s => fm_fetch s) rfl rfl (fun s t h => by
  have h0 := h
  obtain ⟨h1, h2, h3, h4, h5, h6, h7, h8, h9, h10, h11, h12, h13, h14, h15, h16⟩ := h
  obtain ⟨r, s', t', e1, e2, e3, k1⟩ := fetch_ok s t h3
  have mx' := fx_fetch _ _ e1
  have mm' := fm_fetch _ _ e2
  exact ⟨r, s', t', e1, e2, trivial, pres QT_on rfl rfl mx' mm' h1, pres QP_on rfl rfl mx' mm' h2, k1, pres QK_on rfl rfl mx' mm' h4, pres QM_on rfl rfl mx' mm' h5, pres QN_on rfl rfl mx' mm' h6, pres QC_on rfl rfl mx' mm' h7, pres QW_on rfl rfl mx' mm' h8, QR_mo (pres (QR_on _) rfl rfl mx' mm' h9) (by omega), pres QE_on rfl rfl mx' mm' h10, pres QL_on rfl rfl mx' mm' h11, pres QG_on rfl rfl mx' mm' h12, pres QY_on rfl rfl mx' mm' h13, pres QHc_on rfl rfl mx' mm' h14, pres QHr_on rfl rfl mx' mm' h15, QB_mo (pres (QB_on _) rfl rfl mx' mm' h16) (by omega)⟩) hs0
theorem o_row {n : Nat} (hn : n < 512) (a : Int) (ha : rg a) : okL (x_row a) (m_row a) (QQ n) (QQ (n + 1)) := fun s0 hs0 => lock (V := fun _ => True) (fun s => fx_row a s) (fun s => fm_row a s) rfl rfl (fun s t h => by
  have h0 := h
  obtain ⟨h1, h2, h3, h4, h5, h6, h7, h8, h9, h10, h11, h12, h13, h14, h15, h16⟩ := h
  obtain ⟨r, e1, e2⟩ := row_ok a ha s t h5
  exact ⟨r, s, t, e1, e2, trivial, QQ_mo h0⟩) hs0
theorem o_word {n : Nat} (hn : n < 512) (a : Int) (ha : rg a) : okI (x_word a) (m_word a) (QQ n) (QQ (n + 1)) := fun s0 hs0 => lock (V := fun r => rg r) (fun s => fx_word a s) (fun s => fm_word a s) rfl rfl (fun s t h => by
  have h0 := h
  obtain ⟨h1, h2, h3, h4, h5, h6, h7, h8, h9, h10, h11, h12, h13, h14, h15, h16⟩ := h
  obtain ⟨r, e1, e2, e3⟩ := word_ok a ha s t h5
  exact ⟨r, s, t, e1, e2, e3, QQ_mo h0⟩) hs0
theorem o_count {n : Nat} (hn : n < 512) (a : Int) (ha : rg a) : okI (x_count a) (m_count a) (QQ n) (QQ (n + 1)) := fun s0 hs0 => lock (V := fun r => rg r) (fun s => fx_count a s) (fun s => fm_count a s) rfl rfl (fun s t h => by
  have h0 := h
  obtain ⟨h1, h2, h3, h4, h5, h6, h7, h8, h9, h10, h11, h12, h13, h14, h15, h16⟩ := h
  obtain ⟨r, e1, e2, e3⟩ := count_ok a ha s t h1 h6 h3 h4 h7
  exact ⟨r, s, t, e1, e2, e3, QQ_mo h0⟩) hs0
theorem o_command {n : Nat} (hn : n < 512) (a b : Int) (ha : rg a) (hb : rg b) : okI (x_command a b) (m_command_369 a b) (QQ n) (QQ (n + 1)) := fun s0 hs0 => lock (V := fun r => rg r) (fun s => fx_command a b s) (fun s => fm_command_369 a b s) rfl rfl (fun s t h => by
  have h0 := h
  obtain ⟨h1, h2, h3, h4, h5, h6, h7, h8, h9, h10, h11, h12, h13, h14, h15, h16⟩ := h
  obtain ⟨r, e1, e2, e3⟩ := command_ok a b ha hb s t h7
  exact ⟨r, s, t, e1, e2, e3, QQ_mo h0⟩) hs0
theorem o_signs {n : Nat} (hn : n < 512) (a : Int) (ha : rg a) : okI (x_signs a) (m_signs a) (QQ n) (QQ (n + 1)) := fun s0 hs0 => lock (V := fun r => rg r) (fun s => fx_signs a s) (fun s => fm_signs a s) rfl rfl (fun s t h => by
  have h0 := h
  obtain ⟨h1, h2, h3, h4, h5, h6, h7, h8, h9, h10, h11, h12, h13, h14, h15, h16⟩ := h
  obtain ⟨r, s', t', e1, e2, e3, k1, k2, k3, k4, k5⟩ := signs_ok _ a (by omega) ha s t h1 h2 h8 h9 (mx_QF ⟨h10.1, h10.2, h13⟩)
  have mx' := fx_signs _ _ _ e1
  have mm' := fm_signs _ _ _ e2
  exact ⟨r, s', t', e1, e2, e3, k1, k2, pres QO_on rfl rfl mx' mm' h3, pres QK_on rfl rfl mx' mm' h4, pres QM_on rfl rfl mx' mm' h5, pres QN_on rfl rfl mx' mm' h6, pres QC_on rfl rfl mx' mm' h7, k3, QR_mo k4 (by omega), ⟨(QF_mx k5).1, (QF_mx k5).2.1⟩, pres QL_on rfl rfl mx' mm' h11, pres QG_on rfl rfl mx' mm' h12, (QF_mx k5).2.2, pres QHc_on rfl rfl mx' mm' h14, pres QHr_on rfl rfl mx' mm' h15, QB_mo (pres (QB_on _) rfl rfl mx' mm' h16) (by omega)⟩) hs0
theorem o_code {n : Nat} (hn : n < 512) (a : Int) (ha : rg a) : okI (x_code a) (m_code a) (QQ n) (QQ (n + 1)) := fun s0 hs0 => lock (V := fun r => rg r) (fun s => fx_code a s) (fun s => fm_code a s) rfl rfl (fun s t h => by
  have h0 := h
  obtain ⟨h1, h2, h3, h4, h5, h6, h7, h8, h9, h10, h11, h12, h13, h14, h15, h16⟩ := h
  obtain ⟨r, e1, e2, e3⟩ := code_ok a ha s t h8
  exact ⟨r, s, t, e1, e2, e3, QQ_mo h0⟩) hs0
theorem o_go {n : Nat} (hn : n < 512) (a : Int) (ha : rg a) : okI (x_go a) (m_go_436 a) (QQ n) (QQ (n + 1)) := fun s0 hs0 => lock (V := fun r => rg r) (fun s => fx_go a s) (fun s => fm_go_436 a s) rfl rfl (fun s t h => by
  have h0 := h
  obtain ⟨h1, h2, h3, h4, h5, h6, h7, h8, h9, h10, h11, h12, h13, h14, h15, h16⟩ := h
  obtain ⟨r, s', t', e1, e2, e3, k1⟩ := go_ok _ a ha s t h9 h8
  have mx' := fx_go _ _ _ e1
  have mm' := fm_go_436 _ _ _ e2
  exact ⟨r, s', t', e1, e2, e3, pres QT_on rfl rfl mx' mm' h1, pres QP_on rfl rfl mx' mm' h2, pres QO_on rfl rfl mx' mm' h3, pres QK_on rfl rfl mx' mm' h4, pres QM_on rfl rfl mx' mm' h5, pres QN_on rfl rfl mx' mm' h6, pres QC_on rfl rfl mx' mm' h7, pres QW_on rfl rfl mx' mm' h8, QR_mo k1 (by omega), pres QE_on rfl rfl mx' mm' h10, pres QL_on rfl rfl mx' mm' h11, pres QG_on rfl rfl mx' mm' h12, pres QY_on rfl rfl mx' mm' h13, pres QHc_on rfl rfl mx' mm' h14, pres QHr_on rfl rfl mx' mm' h15, QB_mo (pres (QB_on _) rfl rfl mx' mm' h16) (by omega)⟩) hs0
theorem o_set {n : Nat} (hn : n < 512) (a b : Int) (ha : rg a) (hb : rg b) : okI (x_set a b) (m_set a b) (QQ n) (QQ (n + 1)) := fun s0 hs0 => lock (V := fun r => rg r) (fun s => fx_set a b s) (fun s => fm_set a b s) rfl rfl (fun s t h => by
  have h0 := h
  obtain ⟨h1, h2, h3, h4, h5, h6, h7, h8, h9, h10, h11, h12, h13, h14, h15, h16⟩ := h
  obtain ⟨r, s', t', e1, e2, e3, k1⟩ := set_ok _ a b ha s t h9
  have mx' := fx_set _ _ _ _ e1
  have mm' := fm_set _ _ _ _ e2
  exact ⟨r, s', t', e1, e2, b01_rg e3, pres QT_on rfl rfl mx' mm' h1, pres QP_on rfl rfl mx' mm' h2, pres QO_on rfl rfl mx' mm' h3, pres QK_on rfl rfl mx' mm' h4, pres QM_on rfl rfl mx' mm' h5, pres QN_on rfl rfl mx' mm' h6, pres QC_on rfl rfl mx' mm' h7, pres QW_on rfl rfl mx' mm' h8, QR_mo k1 (by omega), pres QE_on rfl rfl mx' mm' h10, pres QL_on rfl rfl mx' mm' h11, pres QG_on rfl rfl mx' mm' h12, pres QY_on rfl rfl mx' mm' h13, pres QHc_on rfl rfl mx' mm' h14, pres QHr_on rfl rfl mx' mm' h15, QB_mo (pres (QB_on _) rfl rfl mx' mm' h16) (by omega)⟩) hs0
theorem o_store {n : Nat} (hn : n < 512) (a : Int) (ha : rg a) : okI (x_store a) (m_store a) (QQ n) (QQ (n + 1)) := fun s0 hs0 => lock (V := fun r => rg r) (fun s => fx_store a s) (fun s => fm_store a s) rfl rfl (fun s t h => by
  have h0 := h
  obtain ⟨h1, h2, h3, h4, h5, h6, h7, h8, h9, h10, h11, h12, h13, h14, h15, h16⟩ := h
  obtain ⟨r, s', t', e1, e2, e3, k1⟩ := store_ok _ a ha s t h9
  have mx' := fx_store _ _ _ e1
  have mm' := fm_store _ _ _ e2
  exact ⟨r, s', t', e1, e2, e3, pres QT_on rfl rfl mx' mm' h1, pres QP_on rfl rfl mx' mm' h2, pres QO_on rfl rfl mx' mm' h3, pres QK_on rfl rfl mx' mm' h4, pres QM_on rfl rfl mx' mm' h5, pres QN_on rfl rfl mx' mm' h6, pres QC_on rfl rfl mx' mm' h7, pres QW_on rfl rfl mx' mm' h8, QR_mo k1 (by omega), pres QE_on rfl rfl mx' mm' h10, pres QL_on rfl rfl mx' mm' h11, pres QG_on rfl rfl mx' mm' h12, pres QY_on rfl rfl mx' mm' h13, pres QHc_on rfl rfl mx' mm' h14, pres QHr_on rfl rfl mx' mm' h15, QB_mo (pres (QB_on _) rfl rfl mx' mm' h16) (by omega)⟩) hs0
theorem o_register {n : Nat} (hn : n < 512) (a : Int) (ha : rg a) : okI (x_register a) (m_register a) (QQ n) (QQ (n + 1)) := fun s0 hs0 => lock (V := fun r => rg r) (fun s => fx_register a s) (fun s => fm_register a s) rfl rfl (fun s t h => by
  have h0 := h
  obtain ⟨h1, h2, h3, h4, h5, h6, h7, h8, h9, h10, h11, h12, h13, h14, h15, h16⟩ := h
  obtain ⟨r, e1, e2, e3⟩ := register_ok _ a (by omega) ha s t h9 h8
  exact ⟨r, s, t, e1, e2, e3, QQ_mo h0⟩) hs0
theorem o_chips {n : Nat} (hn : n < 512) (a : Int) (ha : rg a) : okI (x_chips a) (m_chips a) (QQ n) (QQ (n + 1)) := fun s0 hs0 => lock (V := fun r => rg r) (fun s => fx_chips a s) (fun s => fm_chips a s) rfl rfl (fun s t h => by
  have h0 := h
  obtain ⟨h1, h2, h3, h4, h5, h6, h7, h8, h9, h10, h11, h12, h13, h14, h15, h16⟩ := h
  obtain ⟨r, s', t', e1, e2, e3, k1, k2, k3, k4, k5, k6⟩ := chips_ok a ha s t h1 h2 h11 (QHc_mx h14) (QHr_mx h15) (QB_mx h16) h13
  have mx' := fx_chips _ _ _ e1
  have mm' := fm_chips _ _ _ e2
  exact ⟨r, s', t', e1, e2, e3, k1, k2, pres QO_on rfl rfl mx' mm' h3, pres QK_on rfl rfl mx' mm' h4, pres QM_on rfl rfl mx' mm' h5, pres QN_on rfl rfl mx' mm' h6, pres QC_on rfl rfl mx' mm' h7, pres QW_on rfl rfl mx' mm' h8, QR_mo (pres (QR_on _) rfl rfl mx' mm' h9) (by omega), pres QE_on rfl rfl mx' mm' h10, pres QL_on rfl rfl mx' mm' h11, pres QG_on rfl rfl mx' mm' h12, k6, mx_QHc k3, mx_QHr k4, QB_mo (mx_QB k5) (by omega)⟩) hs0
theorem o_drive {n : Nat} (hn : n < 512) (a b : Int) (ha : rg a) (hb : rg b) : okI (x_drive a b) (m_drive a b) (QQ n) (QQ (n + 1)) := fun s0 hs0 => lock (V := fun r => rg r) (fun s => fx_drive a b s) (fun s => fm_drive a b s) rfl rfl (fun s t h => by
  have h0 := h
  obtain ⟨h1, h2, h3, h4, h5, h6, h7, h8, h9, h10, h11, h12, h13, h14, h15, h16⟩ := h
  obtain ⟨r, s', t', e1, e2, e3, k1⟩ := drive_ok (v := b) (QB_mx h16) ha
  have mx' := fx_drive _ _ _ _ e1
  have mm' := fm_drive _ _ _ _ e2
  exact ⟨r, s', t', e1, e2, e3, pres QT_on rfl rfl mx' mm' h1, pres QP_on rfl rfl mx' mm' h2, pres QO_on rfl rfl mx' mm' h3, pres QK_on rfl rfl mx' mm' h4, pres QM_on rfl rfl mx' mm' h5, pres QN_on rfl rfl mx' mm' h6, pres QC_on rfl rfl mx' mm' h7, pres QW_on rfl rfl mx' mm' h8, QR_mo (pres (QR_on _) rfl rfl mx' mm' h9) (by omega), pres QE_on rfl rfl mx' mm' h10, pres QL_on rfl rfl mx' mm' h11, pres QG_on rfl rfl mx' mm' h12, pres QY_on rfl rfl mx' mm' h13, pres QHc_on rfl rfl mx' mm' h14, pres QHr_on rfl rfl mx' mm' h15, QB_mo (mx_QB k1) (by omega)⟩) hs0
theorem o_pin {n : Nat} (hn : n < 512) (a : Int) (ha : rg a) : okI (x_pin a) (m_pin a) (QQ n) (QQ (n + 1)) := fun s0 hs0 => lock (V := fun r => rg r) (fun s => fx_pin a s) (fun s => fm_pin a s) rfl rfl (fun s t h => by
  have h0 := h
  obtain ⟨h1, h2, h3, h4, h5, h6, h7, h8, h9, h10, h11, h12, h13, h14, h15, h16⟩ := h
  obtain ⟨r, s', t', e1, e2, e3, k1⟩ := pin_ok (QB_mx h16) ha
  have mx' := fx_pin _ _ _ e1
  have mm' := fm_pin _ _ _ e2
  exact ⟨r, s', t', e1, e2, e3, pres QT_on rfl rfl mx' mm' h1, pres QP_on rfl rfl mx' mm' h2, pres QO_on rfl rfl mx' mm' h3, pres QK_on rfl rfl mx' mm' h4, pres QM_on rfl rfl mx' mm' h5, pres QN_on rfl rfl mx' mm' h6, pres QC_on rfl rfl mx' mm' h7, pres QW_on rfl rfl mx' mm' h8, QR_mo (pres (QR_on _) rfl rfl mx' mm' h9) (by omega), pres QE_on rfl rfl mx' mm' h10, pres QL_on rfl rfl mx' mm' h11, pres QG_on rfl rfl mx' mm' h12, pres QY_on rfl rfl mx' mm' h13, pres QHc_on rfl rfl mx' mm' h14, pres QHr_on rfl rfl mx' mm' h15, QB_mo (mx_QB k1) (by omega)⟩) hs0
theorem o_tick {n : Nat} (hn : n < 512)  : okI (x_tick) (m_tick) (QQ n) (QQ (n + 1)) := fun s0 hs0 => lock (V := fun r => rg r) (fun s => fx_tick s) (fun s => fm_tick s) rfl rfl (fun s t h => by
  have h0 := h
  obtain ⟨h1, h2, h3, h4, h5, h6, h7, h8, h9, h10, h11, h12, h13, h14, h15, h16⟩ := h
  obtain ⟨r, s', t', e1, e2, e3, k1⟩ := tick_ok (QB_mx h16) (by omega)
  have mx' := fx_tick _ _ e1
  have mm' := fm_tick _ _ e2
  exact ⟨r, s', t', e1, e2, e3, pres QT_on rfl rfl mx' mm' h1, pres QP_on rfl rfl mx' mm' h2, pres QO_on rfl rfl mx' mm' h3, pres QK_on rfl rfl mx' mm' h4, pres QM_on rfl rfl mx' mm' h5, pres QN_on rfl rfl mx' mm' h6, pres QC_on rfl rfl mx' mm' h7, pres QW_on rfl rfl mx' mm' h8, QR_mo (pres (QR_on _) rfl rfl mx' mm' h9) (by omega), pres QE_on rfl rfl mx' mm' h10, pres QL_on rfl rfl mx' mm' h11, pres QG_on rfl rfl mx' mm' h12, pres QY_on rfl rfl mx' mm' h13, pres QHc_on rfl rfl mx' mm' h14, pres QHr_on rfl rfl mx' mm' h15, mx_QB k1⟩) hs0
theorem o_gates {n : Nat} (hn : n < 512) (a : Int) (ha : rg a) : okI (x_gates a) (m_gates a) (QQ n) (QQ (n + 1)) := fun s0 hs0 => lock (V := fun r => rg r) (fun s => fx_gates a s) (fun s => fm_gates a s) rfl rfl (fun s t h => by
  have h0 := h
  obtain ⟨h1, h2, h3, h4, h5, h6, h7, h8, h9, h10, h11, h12, h13, h14, h15, h16⟩ := h
  obtain ⟨r, s', t', e1, e2, e3, k1⟩ := gates_ok (QB_mx h16) (by omega) ha
  have mx' := fx_gates _ _ _ e1
  have mm' := fm_gates _ _ _ e2
  exact ⟨r, s', t', e1, e2, e3, pres QT_on rfl rfl mx' mm' h1, pres QP_on rfl rfl mx' mm' h2, pres QO_on rfl rfl mx' mm' h3, pres QK_on rfl rfl mx' mm' h4, pres QM_on rfl rfl mx' mm' h5, pres QN_on rfl rfl mx' mm' h6, pres QC_on rfl rfl mx' mm' h7, pres QW_on rfl rfl mx' mm' h8, QR_mo (pres (QR_on _) rfl rfl mx' mm' h9) (by omega), pres QE_on rfl rfl mx' mm' h10, pres QL_on rfl rfl mx' mm' h11, pres QG_on rfl rfl mx' mm' h12, pres QY_on rfl rfl mx' mm' h13, pres QHc_on rfl rfl mx' mm' h14, pres QHr_on rfl rfl mx' mm' h15, QB_mo (mx_QB k1) (by omega)⟩) hs0
theorem all_ok : allOk QQ := fun n hn => ⟨fun s h => QQ_mo h, fun a b c d e ha hb hc hd he => o_feed hn a b c d e ha hb hc hd he, fun a ha => o_load hn a ha, fun a ha => o_keys hn a ha, fun a ha => o_run hn a ha, o_place hn, o_error hn, o_fetch hn, fun a ha => o_row hn a ha, fun a ha => o_word hn a ha, fun a ha => o_count hn a ha, fun a b ha hb => o_command hn a b ha hb, fun a ha => o_signs hn a ha, fun a ha => o_code hn a ha, fun a ha => o_go hn a ha, fun a b ha hb => o_set hn a b ha hb, fun a ha => o_store hn a ha, fun a ha => o_register hn a ha, fun a ha => o_chips hn a ha, fun a b ha hb => o_drive hn a b ha hb, fun a ha => o_pin hn a ha, o_tick hn, fun a ha => o_gates hn a ha⟩
