/-! the constructor of Names; Arrays.copyOf; calls of constructors -/
theorem em_2 : ev_M 2 3 none := ⟨_, _, cm_2⟩
theorem em_20 : ev_M 20 3 (some (.array .int)) := ⟨_, _, cm_20⟩
section CT0
variable {T A A' A0 O Fi : List hq_T} {s s' : iS} {c k n i ci t a : Nat} {st : List Value} {w : ev_W} {d j pc nL : Nat} {ret : Option FieldType} {lo : am_L} {r : am_E} {dc ds : Nat} {v : Option Value} {h h' : List am_C}
theorem kt_Names (w : ev_W) (d : Nat) (hd : 6 ≤ d) (hw : w.1 = .null ∨ w.1 = .ref 65) (hn : T.length = n) (hz : zb n s) {N : Nat} (hN : N < 1000000) {L : Nat} {g : Nat → Int32} {W : List (Int × Int)} (hW : wl L (sb g) (L + 1) 0 0 = W) (hL : L < 100000) (hb : ∀ i, i < L → 0 ≤ sb g i ∧ sb g i < 256) (hWN : W.length ≤ N) {q : Nat} (h_q : q < tb_nK) {fl : List Value} (hf : tb_KF[q]? = some fl) {b : Nat} (h0 : fl[0]? = some (.ref b)) (h1 : fl[1]? = some (iv 0)) (ho : tb_KO[q]? = some "java/lang/String") (h_b : b < tb_nK) (hk : (tb_KT w.2.1 w.2.2)[b]? = some (.byte, L, g)) : ev w d 2 0 [(0, .ref (tb_nK + n)), (1, iv (N : Int)), (2, .ref q)] [] (hq (T ++ [.inl (2, [some none, some none, none])]) s) (none, hq (T ++ [.inl (2, [some (some (n + 1)), some (some (n + 2)), none]), .inr (1, N), .inr (1, N)]) (addW W n (n + 1) (n + 2) 0 s), 2, N + N) := by
  refine k_mv 1 em_2 (ce_at ce_2 0 rfl) rfl rfl ?_
  refine k_oi 4 em_2 (ce_at ce_2 1 rfl) (by omega) rfl rfl ?_
  refine k_mv 5 em_2 (ce_at ce_2 2 rfl) rfl rfl ?_
  refine k_mv 6 em_2 (ce_at ce_2 3 rfl) rfl rfl ?_
  refine k_row (t := 1) (N := N) (dc := 1) (ds := N) (m := n + 1) 8 em_2 (ce_at ce_2 4 rfl) (by omega) (Int.toNat_natCast N) (Or.inr (Or.inl ⟨rfl, rfl⟩)) hn rfl rfl (fun c hc => hz c (by omega)) rfl rfl rfl rfl ?_
  refine k_putr (i := 0) (A' := [.inl (2, [some (some (n + 1)), some none, none]), .inr (1, N)]) 11 em_2 (ce_at ce_2 5 rfl) hn rfl rfl rfl rfl rfl rfl ?_
  refine k_mv 12 em_2 (ce_at ce_2 6 rfl) rfl rfl ?_
  refine k_mv 13 em_2 (ce_at ce_2 7 rfl) rfl rfl ?_
  refine k_row (t := 1) (N := N) (dc := 0) (ds := 0) (m := n + 2) 15 em_2 (ce_at ce_2 8 rfl) (by omega) (Int.toNat_natCast N) (Or.inr (Or.inl ⟨rfl, rfl⟩)) hn rfl rfl (fun c hc => hz c (by omega)) rfl rfl rfl rfl ?_
  refine k_putr (i := 0) (A' := [.inl (2, [some (some (n + 1)), some (some (n + 2)), none]), .inr (1, N), .inr (1, N)]) 18 em_2 (ce_at ce_2 9 rfl) hn rfl rfl rfl rfl rfl rfl ?_
  refine k_mv 19 em_2 (ce_at ce_2 10 rfl) rfl rfl ?_
  refine k_mv 20 em_2 (ce_at ce_2 11 rfl) rfl rfl ?_
  have HO : Ho (hq (T ++ [.inl (2, [some (some (n + 1)), some (some (n + 2)), none]), .inr (1, N), .inr (1, N)])) n 2 [some (n + 1), some (n + 2), none] := ho_hq (ap_at (i := 0) hn rfl rfl) rfl
  have H1 : Ha (hq (T ++ [.inl (2, [some (some (n + 1)), some (some (n + 2)), none]), .inr (1, N), .inr (1, N)])) (n + 1) 1 N := ha_hq (ap_at (i := 1) hn rfl rfl)
  have H2 : Ha (hq (T ++ [.inl (2, [some (some (n + 1)), some (some (n + 2)), none]), .inr (1, N), .inr (1, N)])) (n + 2) 1 N := ha_hq (ap_at (i := 2) hn rfl rfl)
  refine k_ew em_2 23 (ce_at ce_2 12 rfl) (hq (T ++ [.inl (2, [some (some (n + 1)), some (some (n + 2)), none]), .inr (1, N), .inr (1, N)])) (by omega) (iv_v1 (q := n) (rest := []) (by decide) HO rfl) em_3 (Nat.le_of_ble_eq_true rfl) rfl (tnam_addWords _ w (d - 1) (by omega) n (n + 1) (n + 2) N L g HO H1 H2 (by omega) q h_q fl hf b h0 h1 ho h_b hk (by omega) hw s) (addWords_ok (m := 0) hW hL hN hb (by rw [hz n (Nat.le_refl n)]; rfl) (by omega) (by omega) (by omega) (by omega)) ?_
  exact k_ret em_2 (ce_at ce_2 13 rfl)
/-- a constructor that is called at the end of the heap -/
theorem k_inv2 (pc' : Nat) (hm : ev_M j nL ret) {ix j' m q r3 nL' mc ms : Nat} {ret' : Option FieldType} {as rest : List Value} (hc : tb_co j pc = some (.invokespecial ix, j', m, r3)) (h9 : r3 ≠ 9) (hs : st = as.reverse ++ .ref q :: rest) (hl : as.length = m) (h8 : Nat.ble (am_cat rest) 8 = true) (hd : 0 < d) (hm' : ev_M j' nL' ret') (hl' : (lg_sl (.ref q :: as)).length ≤ nL') (hn : pc + 3 = pc') (hdc : mc + dc = c) (hds : ms + ds = k) (hO : A0 ++ O = A) (hF : A0 ++ Fi = A') (k1 : ev w (d - 1) j' 0 (lv_args 0 (.ref q :: as)) [] (hq ((T ++ A0) ++ O) s) (none, hq ((T ++ A0) ++ Fi) s', mc, ms)) {h2 : List am_C} (k2 : ev w d j pc' lo rest (hq (T ++ A') s') (v, h2, dc, ds)) : ev w d j pc lo st (hq (T ++ A) s) (v, h2, c, k) := by
  subst hO hF
  rw [List.append_assoc, List.append_assoc] at k1
  exact k_inv pc' hm hc h9 hs hl h8 hd hm' hl' hn hdc hds k1 k2
/-- arraycopy out of a constant row -/
theorem k_cpk (pc' : Nat) (hm : ev_M j nL ret) {ix c1 n0 n1 a0 : Nat} {g : Nat → Int32} {H : iS → List am_C} {sp dp m : Int} (hc : tb_co j pc = some (.invokestatic ix, 0, 0, 9)) (hd : 0 < d) (h8 : Nat.ble (am_cat st) 8 = true) (ha : a0 < tb_nK) (h0 : (tb_KT w.2.1 w.2.2)[a0]? = some (.int, n0, g)) (h1 : Ha H c1 0 n1) (l0 : n0 < 2147483648) (l1 : n1 < 2147483648) (hg : 0 ≤ sp ∧ 0 ≤ dp ∧ 0 ≤ m ∧ sp + m ≤ (n0 : Int) ∧ dp + m ≤ (n1 : Int)) (hn : pc + 3 = pc') (kk : ev w d j pc' lo st (H (sr s c1 (fun x => if dp.toNat ≤ x ∧ x < dp.toNat + m.toNat then (g (sp.toNat + (x - dp.toNat))).toInt else s c1 x))) r) : ev w d j pc lo (iv m :: iv dp :: .ref (tb_nK + c1) :: iv sp :: .ref a0 :: st) (H s) r := by
  subst hn
  have hr : ∀ z : Int, 0 ≤ z → z < 2147483648 → (Int32.ofInt z).toNatClampNeg = z.toNat ∧ ¬ Int32.ofInt z < 0 := by
    intro z z0 z1
    refine ⟨Int32.toNatClampNeg_ofInt_of_le (by omega) (by omega), fun q => ?_⟩
    have := (r_lt (y := 0) ⟨by omega, by omega⟩ rg0).mp q
    omega
  obtain ⟨a1, a2⟩ := hr sp (by omega) (by omega)
  obtain ⟨b1, b2⟩ := hr dp (by omega) (by omega)
  obtain ⟨c1', c2⟩ := hr m (by omega) (by omega)
  obtain ⟨y, bytes, hm⟩ := hm
  refine ev_one hm hc (pc' := pc + 3) (lo' := lo) (st' := st) (h' := H (sr s c1 (fun x => if dp.toNat ≤ x ∧ x < dp.toNat + m.toNat then (g (sp.toNat + (x - dp.toNat))).toInt else s c1 x))) ?_ (am_plus0 r) kk
  have e1 : (H s)[c1]? = some (.inl (0, n1, .inl (fun k => Int32.ofInt (s c1 k)))) := h1.1 s
  have E : am_cp tb_nK (tb_KT w.2.1 w.2.2) d (.invokestatic ix, 0, 0, 9) (iv m :: iv dp :: .ref (tb_nK + c1) :: iv sp :: .ref a0 :: st) (H s) = some (st, H (sr s c1 (fun x => if dp.toNat ≤ x ∧ x < dp.toNat + m.toNat then (g (sp.toNat + (x - dp.toNat))).toInt else s c1 x))) := by
    simp only [am_cp]
    have h9 : am_cat st ≤ 8 := Nat.le_of_ble_eq_true h8
    unfold am_cat at h9
    rw [if_neg (by rintro (q | q | q); · exact hp_nK c1 q
                   · omega
                   · omega)]
    simp only [am_src]
    rw [if_pos ha, h0, hp_sub, e1]
    simp only
    rw [if_neg (by rw [a1, b1, c1']; rintro (q | q | q | q | q)
                   · exact a2 q
                   · exact b2 q
                   · exact c2 q
                   · omega
                   · omega), a1, b1, c1', ← h1.2]
    have e3 : am_cpy g (fun k => Int32.ofInt (s c1 k)) sp.toNat dp.toNat m.toNat = fun k' => Int32.ofInt (if dp.toNat ≤ k' ∧ k' < dp.toNat + m.toNat then (g (sp.toNat + (k' - dp.toNat))).toInt else s c1 k') := by
      funext k
      simp only [am_cpy, va_cpy]
      by_cases hk : dp.toNat ≤ k ∧ k < dp.toNat + m.toNat
      · rw [if_pos hk, if_pos hk, Int32.ofInt_toInt]
      · rw [if_neg hk, if_neg hk]
    rw [e3]
    rfl
  unfold am_one
  have z1 : am_op (Instr.invokestatic ix) (iv m :: iv dp :: .ref (tb_nK + c1) :: iv sp :: .ref a0 :: st) = none := rfl
  have z2 : am_mv nL (Instr.invokestatic ix) lo (iv m :: iv dp :: .ref (tb_nK + c1) :: iv sp :: .ref a0 :: st) = none := rfl
  have z3 : am_br (Instr.invokestatic ix) (iv m :: iv dp :: .ref (tb_nK + c1) :: iv sp :: .ref a0 :: st) = none := rfl
  have z4 : am_sw (Instr.invokestatic ix) (iv m :: iv dp :: .ref (tb_nK + c1) :: iv sp :: .ref a0 :: st) = none := rfl
  have z5 : am_hp [] tb_nK tb_df tb_ft (Instr.invokestatic ix, 0, 0, 9) (iv m :: iv dp :: .ref (tb_nK + c1) :: iv sp :: .ref a0 :: st) (H s) = none := rfl
  have z6 : am_kc tb_nK (tb_KT w.2.1 w.2.2) tb_KF (tb_SZ w.1) tb_SR (Instr.invokestatic ix, 0, 0, 9) (iv m :: iv dp :: .ref (tb_nK + c1) :: iv sp :: .ref a0 :: st) = none := rfl
  have z7 : am_rt ret (Instr.invokestatic ix) (iv m :: iv dp :: .ref (tb_nK + c1) :: iv sp :: .ref a0 :: st) = none := by
    unfold am_rt
    split <;> simp_all
  have z8 : am_oi d (Instr.invokestatic ix, 0, 0, 9) (iv m :: iv dp :: .ref (tb_nK + c1) :: iv sp :: .ref a0 :: st) = none := rfl
  rw [z1, z2, z3, z4, z5, z6, z7, z8, E]
  rfl
theorem k_alenk (pc' : Nat) (hm : ev_M j nL ret) (hc : tb_co j pc = some (.arraylength, 0, 0, 0)) {q m : Nat} {ty : FieldType} {g : Nat → Int32} (ha : q < tb_nK) (ht : (tb_KT w.2.1 w.2.2)[q]? = some (ty, m, g)) (hty : ty ≠ .float) (hn : pc + 1 = pc') (kk : ev w d j pc' lo (iv (m : Int) :: st) h r) : ev w d j pc lo (.ref q :: st) h r := by
  refine k_kc pc' hm hc (st' := iv m :: st) ?_ ?_ hn kk
  · simp only [am_kc]
    rw [if_pos ha, ht]
    simp only
    rw [if_neg hty]
    simp only [iv, Int32.ofInt_eq_ofNat]
  · simp only [am_hp, am_at]
    rw [if_pos ha]
    rfl
theorem k_ewi {x : Int} (hm : ev_M j nL ret) (pc' : Nat) {z : am_I} (hc : tb_co j pc = some z) {j' nL' : Nat} {ret' : Option FieldType} {as rest : List Value} {f : Option (Int × iS)} (H : iS → List am_C) (hd : 0 < d) (hi : am_iv tb_nK tb_KO (H s) z st = some (j', as, rest)) (hm' : ev_M j' nL' ret') (hl : (lg_sl as).length ≤ nL') (hn : pc + 3 = pc') (k1 : Ew H w (d - 1) j' 0 (lv_args 0 as) [] s (Ci H) f) (hf : f = some (x, s')) (k2 : ev w d j pc' lo (iv x :: rest) (H s') r) : ev w d j pc lo st (H s) r := by
  subst hn
  obtain ⟨d, rfl⟩ : ∃ n, d = n + 1 := ⟨d - 1, by omega⟩
  exact ev_iv hm hc hi hm' hl (am_plus0 r) (k1 (x, s') _ hf rfl) k2
theorem kt_copyOf (w : ev_W) (d : Nat) (hd : 2 ≤ d) (hn : T.length = n) (hz : zb n s) {q L N : Nat} {g : Nat → Int32} (h_q : q < tb_nK) (hk : (tb_KT w.2.1 w.2.2)[q]? = some (.int, L, g)) (hLN : L < N) (hN : N < 67108864) : ev w d 20 0 [(0, .ref q), (1, iv (N : Int))] [] (hq T s) (some (.ref (tb_nK + n)), hq (T ++ [.inr (0, N)]) (sr s n (fun x => if x < L then (g x).toInt else 0)), 1, N) := by
  refine k_mv 1 em_20 (ce_at ce_20 0 rfl) rfl rfl ?_
  refine k_mv 2 em_20 (ce_at ce_20 1 rfl) rfl rfl ?_
  refine k_alenk 3 em_20 (ce_at ce_20 2 rfl) h_q hk (by decide) rfl ?_
  refine ev_br em_20 (ce_at ce_20 3 rfl) (P := ¬ Int32.ofInt (N : Int) = Int32.ofInt (L : Int)) (tgt := 14) (st' := []) rfl rfl (fun _ => ?_) (fun q => absurd (fun e => by
    have := (r_eq (x := (N : Int)) (y := (L : Int)) ⟨by omega, by omega⟩ ⟨by omega, by omega⟩).mp e
    omega) q)
  refine k_mv 15 em_20 (ce_at ce_20 6 rfl) rfl rfl ?_
  refine c_row (t := 0) (N := N) (dc := 0) (ds := 0) 17 em_20 (ce_at ce_20 7 rfl) (by omega) (Int.toNat_natCast N) (Or.inl ⟨rfl, rfl⟩) hn hz rfl rfl ?_
  refine k_mv 18 em_20 (ce_at ce_20 8 rfl) rfl rfl ?_
  refine k_mv 19 em_20 (ce_at ce_20 9 rfl) rfl rfl ?_
  refine k_op 20 em_20 (ce_at ce_20 10 rfl) rfl rfl ?_
  refine k_mv 21 em_20 (ce_at ce_20 11 rfl) rfl rfl ?_
  refine k_op 22 em_20 (ce_at ce_20 12 rfl) rfl rfl ?_
  refine k_mv 23 em_20 (ce_at ce_20 13 rfl) rfl rfl ?_
  refine k_alenk 24 em_20 (ce_at ce_20 14 rfl) h_q hk (by decide) rfl ?_
  refine k_mv 25 em_20 (ce_at ce_20 15 rfl) rfl rfl ?_
  refine k_ewi (x := (L : Int)) (s' := s) em_20 28 (ce_at ce_20 16 rfl) (hq (T ++ [.inr (0, N)])) (by omega) (iv_s2 (rest := [iv 0, .ref (tb_nK + n), iv 0, .ref q]) rfl) em_21 (Nat.le_of_ble_eq_true rfl) rfl (tmth_min _ w (d - 1) (by omega) (L : Int) (N : Int) s) (by rw [min_ok ⟨by omega, by omega⟩ ⟨by omega, by omega⟩, if_neg (by omega)]) ?_
  refine k_cpk (d := d) (st := []) (s := s) (a0 := q) (c1 := n) (H := hq (T ++ [.inr (0, N)])) (sp := 0) (dp := 0) (m := (L : Int)) 31 em_20 (ce_at ce_20 17 rfl) (by omega) rfl h_q hk (ha_hq (ap_at (i := 0) hn rfl rfl)) (by omega) (by omega) (by omega) rfl ?_
  refine k_mv 32 em_20 (ce_at ce_20 18 rfl) rfl rfl ?_
  have e : (fun x => if (0 : Int).toNat ≤ x ∧ x < (0 : Int).toNat + (L : Int).toNat then (g ((0 : Int).toNat + (x - (0 : Int).toNat))).toInt else s n x) = fun x => if x < L then (g x).toInt else 0 := by
    funext x
    rw [hz n (Nat.le_refl n)]
    simp
  rw [e]
  exact ev_rt em_20 (ce_at ce_20 19 rfl) rfl
end CT0
