/-! a heap while it is made: fields that are still null; hq T s: the shape T, the numbers s -/
abbrev hq_T : Type := (Nat × List (Option (Option Nat))) ⊕ (Nat × Nat)
def hq_v (g : Nat → Int) (k : Nat) : Option (Option Nat) → Value
  | none => .int (Int32.ofInt (g k))
  | some none => .null
  | some (some a) => .ref (tb_nK + a)
def hqc (g : Nat → Int) : hq_T → am_C
  | .inl (ci, fs) => .inr (ci, fs.mapIdx (fun k f => hq_v g k f))
  | .inr (t, n) => rowc t n g
def hq (T : List hq_T) (s : iS) : List am_C := T.mapIdx (fun c t => hqc (s c) t)
/-- behind n all is 0 -/
def zb (n : Nat) (s : iS) : Prop := ∀ c, n ≤ c → s c = fun _ => 0
section HQ2
variable {T : List hq_T} {s : iS} {c k n ci t a : Nat} {st : List Value} {fs : List (Option Nat)}
theorem hq_len : (hq T s).length = T.length := by rw [hq, List.length_mapIdx]
theorem hq_at {y : hq_T} (h : T[c]? = some y) : (hq T s)[c]? = some (hqc (s c) y) := by
  rw [hq, List.getElem?_mapIdx, h]
  rfl
theorem hq_app (y : hq_T) : hq (T ++ [y]) s = hq T s ++ [hqc (s T.length) y] := by
  unfold hq
  rw [List.mapIdx_append]
  simp
theorem hq_set {y y' : hq_T} {g : Nat → Int} (h : T[c]? = some y) : (hq T s).set c (hqc g y') = hq (T.set c y') (sr s c g) := by
  refine List.ext_getElem? fun i => ?_
  have hc : c < T.length := (List.getElem?_eq_some_iff.mp h).1
  by_cases hi : i = c
  · subst hi
    rw [List.getElem?_set_self (by rw [hq_len]; exact hc), hq_at (T := T.set i y') (y := y') (List.getElem?_set_self hc)]
    have : sr s i g i = g := by funext k; simp [sr]
    rw [this]
  · rw [List.getElem?_set_ne (Ne.symm hi), hq, hq, List.getElem?_mapIdx, List.getElem?_mapIdx, List.getElem?_set_ne (Ne.symm hi)]
    have : sr s c g i = s i := by funext k; simp [sr, hi]
    rw [this]
theorem sr_self : sr s c (s c) = s := by
  funext c' k'
  simp only [sr]
  split
  · rename_i h; rw [h]
  · rfl
theorem hq_o (ci : Nat) (fs : List (Option Nat)) (g : Nat → Int) : hqc g (.inl (ci, fs.map (fun f => f.map some))) = objc ci fs g := by
  have : (fs.map (fun f => f.map some)).mapIdx (fun k f => hq_v g k f) = fs.mapIdx (fun k f => objv g k f) := by
   refine List.ext_getElem? fun i => ?_
   rw [List.getElem?_mapIdx, List.getElem?_mapIdx, List.getElem?_map]
   cases fs[i]? with
   | none => rfl
   | some f => cases f <;> rfl
  show Sum.inr (ci, _) = Sum.inr (ci, _)
  rw [this]
theorem set_at {y : hq_T} (h : T[c]? = some y) : T.set c y = T := by
  refine List.ext_getElem? fun i => ?_
  by_cases hi : i = c
  · subst hi
    rw [List.getElem?_set_self (List.getElem?_eq_some_iff.mp h).1, h]
  · rw [List.getElem?_set_ne (Ne.symm hi)]
theorem ho_hq {F : List (Option (Option Nat))} (h : T[c]? = some (.inl (ci, F))) (hF : F = fs.map (fun f => f.map some)) : Ho (hq T) c ci fs := by
  subst hF
  refine ⟨fun s => by rw [← hq_o]; exact hq_at h, fun s g => ?_⟩
  rw [← hq_o, hq_set h, set_at h]
theorem ha_hq (h : T[c]? = some (.inr (t, n))) : Ha (hq T) c t n :=
  ⟨fun s => hq_at h, fun s g => by
    have := hq_set (s := s) (y' := .inr (t, n)) (g := g) h
    rw [set_at h] at this
    exact this⟩
variable {w : ev_W} {d j pc nL : Nat} {ret : Option FieldType} {lo : am_L} {r : am_E} {dc ds : Nat} {v : Option Value} {h' : List am_C}
/-- an object is made -/
theorem c_new (pc' : Nat) (hm : ev_M j nL ret) {ix : Nat} (hc : tb_co j pc = some (.new ix, ci, 0, 0)) (F : List (Option (Option Nat))) (hn : T.length = n) (hz : zb n s) (hF : hqc (fun _ => 0) (.inl (ci, F)) = .inr (ci, tb_df ci)) (hp : pc + 3 = pc') (hds : (tb_df ci).length + ds = k) (kk : ev w d j pc' lo (.ref (tb_nK + n) :: st) (hq (T ++ [.inl (ci, F)]) s) (v, h', dc, ds)) : ev w d j pc lo st (hq T s) (v, h', 1 + dc, k) := by
  subst hn hp hds
  refine ev_hp hm hc (st' := .ref (tb_nK + T.length) :: st) (h' := hq (T ++ [(Sum.inl (ci, F) : hq_T)]) s) (dc := 1) (ds := (tb_df ci).length) (r' := (v, h', dc, ds)) ?_ rfl kk
  rw [hq_app, hz T.length (Nat.le_refl _), hF]
  simp only [am_hp, hq_len]
/-- a row is made -/
theorem c_row (pc' : Nat) (hm : ev_M j nL ret) {t : Nat} {x : Int} {N : Nat} {z : am_I} (hc : tb_co j pc = some z) (hN : 0 ≤ x ∧ x < 67108864) (hxN : x.toNat = N) (hz3 : (z = (.newarray .int, 0, 0, 0) ∧ t = 0) ∨ (z = (.newarray .long, 0, 0, 0) ∧ t = 1) ∨ (z = (.newarray .boolean, 0, 0, 0) ∧ t = 4)) (hn : T.length = n) (hz : zb n s) (hp : pc + 2 = pc') (hds : N + ds = k) (kk : ev w d j pc' lo (.ref (tb_nK + n) :: st) (hq (T ++ [.inr (t, N)]) s) (v, h', dc, ds)) : ev w d j pc lo (iv x :: st) (hq T s) (v, h', 1 + dc, k) := by
  subst hn hp hds hxN
  have e1 : (Int32.ofInt x).toNatClampNeg = x.toNat := Int32.toNatClampNeg_ofInt_of_le (by omega) (by omega)
  have e2 : ¬ Int32.ofInt x < 0 := fun q => by
    have := (r_lt (x := x) (y := 0) ⟨by omega, by omega⟩ rg0).mp q
    omega
  have e3 : am_len z.1 = 2 := by rcases hz3 with ⟨rfl, _⟩ | ⟨rfl, _⟩ | ⟨rfl, _⟩ <;> rfl
  rw [← e3] at kk
  refine ev_hp hm hc (st' := .ref (tb_nK + T.length) :: st) (h' := hq (T ++ [.inr (t, x.toNat)]) s) (dc := 1) (ds := x.toNat) ?_ rfl kk
  rw [hq_app, hz T.length (Nat.le_refl _)]
  rcases hz3 with ⟨rfl, rfl⟩ | ⟨rfl, rfl⟩ | ⟨rfl, rfl⟩
  · simp only [am_hp, hq_len]
    rw [e1, if_neg (by rintro (q | q); · exact e2 q
                       · omega)]
    rfl
  · simp only [am_hp, hq_len]
    rw [e1, if_neg (by rintro (q | q); · exact e2 q
                       · omega)]
    rfl
  · simp only [am_hp, hq_len]
    rw [e1, if_neg (by rintro (q | q); · exact e2 q
                       · omega)]
    rfl
/-- a reference is written -/
theorem c_putr (pc' : Nat) (hm : ev_M j nL ret) {ix : Nat} (hc : tb_co j pc = some (.putfield ix, ci, k, 0)) {F : List (Option (Option Nat))} {o : Option Nat} {T' : List hq_T} (hT : T[c]? = some (.inl (ci, F))) (hF : F[k]? = some (some o)) (hT' : T.set c (.inl (ci, F.set k (some (some a)))) = T') (hx : am_fit (tb_ft ci k) (.ref (tb_nK + a)) = true) (hp : pc + 3 = pc') (kk : ev w d j pc' lo st (hq T' s) r) : ev w d j pc lo (.ref (tb_nK + a) :: .ref (tb_nK + c) :: st) (hq T s) r := by
  subst hp hT'
  refine ev_hp hm hc (st' := st) (h' := hq (T.set c (.inl (ci, F.set k (some (some a))))) s) (dc := 0) (ds := 0) ?_ (am_plus0 r) kk
  simp only [am_hp]
  have hk : k < (F.mapIdx (fun k f => hq_v (s c) k f)).length := by rw [List.length_mapIdx]; exact (List.getElem?_eq_some_iff.mp hF).1
  have e0 : (hq T s)[c]? = some (.inr (ci, F.mapIdx (fun k f => hq_v (s c) k f))) := hq_at hT
  rw [if_neg (hp_nK c), hp_sub, e0]
  simp only
  rw [if_pos ⟨trivial, hk, hx⟩]
  have e1 : (F.mapIdx (fun k f => hq_v (s c) k f)).set k (.ref (tb_nK + a)) = (F.set k (some (some a))).mapIdx (fun k f => hq_v (s c) k f) := by
    refine List.ext_getElem? fun i => ?_
    by_cases hi : i = k
    · subst hi
      rw [List.getElem?_set_self hk, List.getElem?_mapIdx, List.getElem?_set_self (List.getElem?_eq_some_iff.mp hF).1]
      rfl
    · rw [List.getElem?_set_ne (Ne.symm hi), List.getElem?_mapIdx, List.getElem?_mapIdx, List.getElem?_set_ne (Ne.symm hi)]
  have e2 := hq_set (s := s) (y' := .inl (ci, F.set k (some (some a)))) (g := s c) hT
  rw [sr_self] at e2
  rw [e1, ← e2]
  rfl
/-- a number is written -/
theorem c_puti (pc' : Nat) (hm : ev_M j nL ret) {ix : Nat} {x : Int} (hc : tb_co j pc = some (.putfield ix, ci, k, 0)) {F : List (Option (Option Nat))} (hT : T[c]? = some (.inl (ci, F))) (hF : F[k]? = some none) (hx : am_fit (tb_ft ci k) (iv x) = true) (hp : pc + 3 = pc') (kk : ev w d j pc' lo st (hq T (up s c k x)) r) : ev w d j pc lo (iv x :: .ref (tb_nK + c) :: st) (hq T s) r := by
  subst hp
  refine ev_hp hm hc (st' := st) (h' := hq T (up s c k x)) (dc := 0) (ds := 0) ?_ (am_plus0 r) kk
  simp only [am_hp]
  have hk : k < (F.mapIdx (fun k f => hq_v (s c) k f)).length := by rw [List.length_mapIdx]; exact (List.getElem?_eq_some_iff.mp hF).1
  have e0 : (hq T s)[c]? = some (.inr (ci, F.mapIdx (fun k f => hq_v (s c) k f))) := hq_at hT
  rw [if_neg (hp_nK c), hp_sub, e0]
  simp only
  rw [if_pos ⟨trivial, hk, hx⟩]
  have e1 : (F.mapIdx (fun k f => hq_v (s c) k f)).set k (iv x) = F.mapIdx (fun k' f => hq_v (u1 (s c) k x) k' f) := by
    refine List.ext_getElem? fun i => ?_
    by_cases hi : i = k
    · subst hi
      rw [List.getElem?_set_self hk, List.getElem?_mapIdx, hF]
      simp [hq_v, u1]
    · rw [List.getElem?_set_ne (Ne.symm hi), List.getElem?_mapIdx, List.getElem?_mapIdx]
      cases F[i]? with
      | none => rfl
      | some f =>
        rcases f with _ | _ | a
        · simp [hq_v, u1, hi]
        · rfl
        · rfl
  have e2 := hq_set (s := s) (y' := .inl (ci, F)) (g := u1 (s c) k x) hT
  rw [sr_u1, set_at hT] at e2
  rw [e1, ← e2]
  rfl
end HQ2
/-! the rules of constructors: the heap is hq (T ++ A) s, T what was there before -/
section CT
variable {T A A' : List hq_T} {s : iS} {c k n i ci t a : Nat} {st st' : List Value} {w : ev_W} {d j pc nL : Nat} {ret : Option FieldType} {lo lo' : am_L} {r : am_E} {dc ds : Nat} {v : Option Value} {h h' : List am_C}
theorem ap_at {y : hq_T} (hn : T.length = n) (hA : A[i]? = some y) (hc : n + i = c) : (T ++ A)[c]? = some y := by
  subst hc hn
  rw [List.getElem?_append_right (Nat.le_add_right _ _), Nat.add_sub_cancel_left, hA]
theorem ap_set {y : hq_T} (hn : T.length = n) (hA : A.set i y = A') (hc : n + i = c) : (T ++ A).set c y = T ++ A' := by
  subst hc hn hA
  rw [List.set_append_right _ _ (Nat.le_add_right _ _), Nat.add_sub_cancel_left]
theorem zb_up {x : Int} (hz : zb n s) (hc : Nat.blt c n = true) : zb n (up s c k x) := by
  intro c' h1
  have := Nat.blt_eq.mp hc
  rw [up_cell (by omega)]
  exact hz c' h1
theorem zb_mono {m : Nat} (hz : zb n s) (h : Nat.ble n m = true) : zb m s := fun c hc => hz c (Nat.le_trans (Nat.le_of_ble_eq_true h) hc)
theorem k_op (pc' : Nat) (hm : ev_M j nL ret) {z : am_I} (hc : tb_co j pc = some z) (h1 : am_op z.1 st = some st') (hn : pc + am_len z.1 = pc') (kk : ev w d j pc' lo st' h r) : ev w d j pc lo st h r := by
  subst hn
  exact ev_op hm hc h1 kk
theorem k_mv (pc' : Nat) (hm : ev_M j nL ret) {z : am_I} (hc : tb_co j pc = some z) (h1 : am_mv nL z.1 lo st = some (lo', st')) (hn : pc + am_len z.1 = pc') (kk : ev w d j pc' lo' st' h r) : ev w d j pc lo st h r := by
  subst hn
  exact ev_mv hm hc h1 kk
theorem k_bip (pc' : Nat) (hm : ev_M j nL ret) {n : Int} (hc : tb_co j pc = some (.bipush n, 0, 0, 0)) (hb : -128 ≤ n ∧ n ≤ 127) (hn : pc + 2 = pc') (kk : ev w d j pc' lo (iv n :: st) h r) : ev w d j pc lo st h r := by
  refine k_op pc' hm hc (st' := iv n :: st) ?_ hn kk
  simp only [am_op, iv]
  have : (Int8.ofInt n).toInt32 = Int32.ofInt n := by
    rw [← Int32.toInt_inj, Int8.toInt_toInt32, Int8.toInt_ofInt_of_le hb.1 (by omega), r_ti ⟨by omega, by omega⟩]
  rw [this]
theorem k_sip (pc' : Nat) (hm : ev_M j nL ret) {n : Int} (hc : tb_co j pc = some (.sipush n, 0, 0, 0)) (hb : -32768 ≤ n ∧ n ≤ 32767) (hn : pc + 3 = pc') (kk : ev w d j pc' lo (iv n :: st) h r) : ev w d j pc lo st h r := by
  refine k_op pc' hm hc (st' := iv n :: st) ?_ hn kk
  simp only [am_op, iv]
  have : (Int16.ofInt n).toInt32 = Int32.ofInt n := by
    rw [← Int32.toInt_inj, Int16.toInt_toInt32, Int16.toInt_ofInt_of_le hb.1 (by omega), r_ti ⟨by omega, by omega⟩]
  rw [this]
theorem k_kc (pc' : Nat) (hm : ev_M j nL ret) {z : am_I} (hc : tb_co j pc = some z) (h1 : am_kc tb_nK (tb_KT w.2.1 w.2.2) tb_KF (tb_SZ w.1) tb_SR z st = some st') (h2 : am_hp [] tb_nK tb_df tb_ft z st h = none) (hn : pc + am_len z.1 = pc') (kk : ev w d j pc' lo st' h r) : ev w d j pc lo st h r := by
  subst hn
  exact ev_kc hm hc h1 h2 kk
theorem k_ldc (pc' : Nat) (hm : ev_M j nL ret) {ix v : Nat} {x : Int} (hc : tb_co j pc = some (.ldc ix, v, 0, 0)) (hv : Int32.ofNat v = Int32.ofInt x) (hn : pc + 2 = pc') (kk : ev w d j pc' lo (iv x :: st) h r) : ev w d j pc lo st h r := k_kc pc' hm hc (by simp only [am_kc, iv, hv]) rfl hn kk
theorem k_ldcs (pc' : Nat) (hm : ev_M j nL ret) {ix r' : Nat} {z : String × Nat × String × Nat} (hc : tb_co j pc = some (.ldc ix, r', 0, 1)) (hz : tb_SR[r']? = some z) (hn : pc + 2 = pc') (kk : ev w d j pc' lo (.ref z.2.2.2 :: st) h r) : ev w d j pc lo st h r := k_kc pc' hm hc (by simp only [am_kc, hz]) rfl hn kk
theorem k_ldcsw (pc' : Nat) (hm : ev_M j nL ret) {ix r' : Nat} {z : String × Nat × String × Nat} (hc : tb_co j pc = some (.ldc_w ix, r', 0, 1)) (hz : tb_SR[r']? = some z) (hn : pc + 3 = pc') (kk : ev w d j pc' lo (.ref z.2.2.2 :: st) h r) : ev w d j pc lo st h r := k_kc pc' hm hc (by simp only [am_kc, hz]) rfl hn kk
theorem k_gst (pc' : Nat) (hm : ev_M j nL ret) {ix r' : Nat} {z : String × String × String × Value} (hc : tb_co j pc = some (.getstatic ix, r', 0, 0)) (hz : (tb_SZ w.1)[r']? = some z) (hn : pc + 3 = pc') (kk : ev w d j pc' lo (z.2.2.2 :: st) h r) : ev w d j pc lo st h r := k_kc pc' hm hc (by simp only [am_kc, hz]) rfl hn kk
/-- Object's constructor -/
theorem k_oi (pc' : Nat) (hm : ev_M j nL ret) {ix q : Nat} (hc : tb_co j pc = some (.invokespecial ix, 0, 0, 9)) (hd : 0 < d) (h8 : Nat.ble (am_cat st) 8 = true) (hn : pc + 3 = pc') (kk : ev w d j pc' lo st h r) : ev w d j pc lo (.ref q :: st) h r := by
  subst hn
  obtain ⟨y, bytes, hm⟩ := hm
  refine ev_one hm hc (pc' := pc + 3) (lo' := lo) (st' := st) (h' := h) ?_ (am_plus0 r) kk
  have h9 : am_cat st ≤ 8 := Nat.le_of_ble_eq_true h8
  unfold am_cat at h9
  unfold am_one
  have z1 : am_op (Instr.invokespecial ix) (.ref q :: st) = none := rfl
  have z2 : am_mv nL (Instr.invokespecial ix) lo (.ref q :: st) = none := rfl
  have z3 : am_br (Instr.invokespecial ix) (.ref q :: st) = none := rfl
  have z4 : am_sw (Instr.invokespecial ix) (.ref q :: st) = none := rfl
  have z5 : am_hp [] tb_nK tb_df tb_ft (Instr.invokespecial ix, 0, 0, 9) (.ref q :: st) h = none := rfl
  have z6 : am_kc tb_nK (tb_KT w.2.1 w.2.2) tb_KF (tb_SZ w.1) tb_SR (Instr.invokespecial ix, 0, 0, 9) (.ref q :: st) = none := rfl
  have z7 : am_rt ret (Instr.invokespecial ix) (.ref q :: st) = none := by
    unfold am_rt
    split <;> simp_all
  have z8 : am_oi d (Instr.invokespecial ix, 0, 0, 9) (.ref q :: st) = some st := by
    simp only [am_oi]
    rw [if_neg (by rintro (e | e) <;> omega)]
  rw [z1, z2, z3, z4, z5, z6, z7, z8]
  rfl
/-- a constructor is called -/
theorem k_inv (pc' : Nat) (hm : ev_M j nL ret) {ix j' m q r3 nL' mc ms : Nat} {ret' : Option FieldType} {as rest : List Value} (hc : tb_co j pc = some (.invokespecial ix, j', m, r3)) (h9 : r3 ≠ 9) (hs : st = as.reverse ++ .ref q :: rest) (hl : as.length = m) (h8 : Nat.ble (am_cat rest) 8 = true) (hd : 0 < d) (hm' : ev_M j' nL' ret') (hl' : (lg_sl (.ref q :: as)).length ≤ nL') (hn : pc + 3 = pc') (hdc : mc + dc = c) (hds : ms + ds = k) (k1 : ev w (d - 1) j' 0 (lv_args 0 (.ref q :: as)) [] h (none, h', mc, ms)) {h2 : List am_C} (k2 : ev w d j pc' lo rest h' (v, h2, dc, ds)) : ev w d j pc lo st h (v, h2, c, k) := by
  subst hn hdc hds hs
  obtain ⟨d, rfl⟩ : ∃ n, d = n + 1 := ⟨d - 1, by omega⟩
  refine ev_iv hm hc (as := .ref q :: as) (rest := rest) ?_ hm' hl' rfl k1 k2
  have e1 : (as.reverse ++ Value.ref q :: rest).drop m = .ref q :: rest := by rw [← hl, ← List.length_reverse, List.drop_left]
  have e2 : (as.reverse ++ Value.ref q :: rest).take m = as.reverse := by rw [← hl, ← List.length_reverse, List.take_left]
  simp only [am_iv]
  rw [e1, e2, List.reverse_reverse]
  have := Nat.le_of_ble_eq_true h8
  simp only
  rw [if_neg (by rintro (e | e); · exact h9 e
                 · omega)]
/-- what a function tells, at a heap that is being made -/
theorem k_ew {s s' : iS} (hm : ev_M j nL ret) (pc' : Nat) {z : am_I} (hc : tb_co j pc = some z) {j' nL' : Nat} {ret' : Option FieldType} {as rest : List Value} {f : Option (Int × iS)} (H : iS → List am_C) (hd : 0 < d) (hi : am_iv tb_nK tb_KO (H s) z st = some (j', as, rest)) (hm' : ev_M j' nL' ret') (hl : (lg_sl as).length ≤ nL') (hn : pc + 3 = pc') (k1 : Ew H w (d - 1) j' 0 (lv_args 0 as) [] s (Cv H) f) (hf : f = some (0, s')) (k2 : ev w d j pc' lo rest (H s') r) : ev w d j pc lo st (H s) r := by
  subst hn
  obtain ⟨d, rfl⟩ : ∃ n, d = n + 1 := ⟨d - 1, by omega⟩
  exact ev_iv hm hc hi hm' hl (am_plus0 r) (k1 (0, s') _ hf rfl) k2
theorem k_new (pc' : Nat) (hm : ev_M j nL ret) {ix m : Nat} (hc : tb_co j pc = some (.new ix, ci, 0, 0)) (F : List (Option (Option Nat))) (hn : T.length = n) (hA : A.length = i) (hi : n + i = m) (hz : zb m s) (hF : hqc (fun _ => 0) (.inl (ci, F)) = .inr (ci, tb_df ci)) (hp : pc + 3 = pc') (hdc : 1 + dc = c) (hds : (tb_df ci).length + ds = k) (hA' : A ++ [.inl (ci, F)] = A') (kk : ev w d j pc' lo (.ref (tb_nK + m) :: st) (hq (T ++ A') s) (v, h', dc, ds)) : ev w d j pc lo st (hq (T ++ A) s) (v, h', c, k) := by
  subst hA' hdc
  rw [← List.append_assoc] at kk
  exact c_new pc' hm hc F (by rw [List.length_append, hn, hA, hi]) hz hF hp hds kk
theorem k_row (pc' : Nat) (hm : ev_M j nL ret) {t m N : Nat} {x : Int} {z : am_I} (hc : tb_co j pc = some z) (hN : 0 ≤ x ∧ x < 67108864) (hxN : x.toNat = N) (hz3 : (z = (.newarray .int, 0, 0, 0) ∧ t = 0) ∨ (z = (.newarray .long, 0, 0, 0) ∧ t = 1) ∨ (z = (.newarray .boolean, 0, 0, 0) ∧ t = 4)) (hn : T.length = n) (hA : A.length = i) (hi : n + i = m) (hz : zb m s) (hp : pc + 2 = pc') (hdc : 1 + dc = c) (hds : N + ds = k) (hA' : A ++ [.inr (t, N)] = A') (kk : ev w d j pc' lo (.ref (tb_nK + m) :: st) (hq (T ++ A') s) (v, h', dc, ds)) : ev w d j pc lo (iv x :: st) (hq (T ++ A) s) (v, h', c, k) := by
  subst hA' hdc
  rw [← List.append_assoc] at kk
  exact c_row pc' hm hc hN hxN hz3 (by rw [List.length_append, hn, hA, hi]) hz hp hds kk
theorem k_putr (pc' : Nat) (hm : ev_M j nL ret) {ix : Nat} (hc : tb_co j pc = some (.putfield ix, ci, k, 0)) {F : List (Option (Option Nat))} {o : Option Nat} (hn : T.length = n) (hA : A[i]? = some (.inl (ci, F))) (hci : n + i = c) (hF : F[k]? = some (some o)) (hA' : A.set i (.inl (ci, F.set k (some (some a)))) = A') (hx : am_fit (tb_ft ci k) (.ref (tb_nK + a)) = true) (hp : pc + 3 = pc') (kk : ev w d j pc' lo st (hq (T ++ A') s) r) : ev w d j pc lo (.ref (tb_nK + a) :: .ref (tb_nK + c) :: st) (hq (T ++ A) s) r :=
  c_putr pc' hm hc (ap_at hn hA hci) hF (ap_set hn hA' hci) hx hp kk
theorem k_puti (pc' : Nat) (hm : ev_M j nL ret) {ix : Nat} {x : Int} (hc : tb_co j pc = some (.putfield ix, ci, k, 0)) {F : List (Option (Option Nat))} (hn : T.length = n) (hA : A[i]? = some (.inl (ci, F))) (hci : n + i = c) (hF : F[k]? = some none) (hx : am_fit (tb_ft ci k) (iv x) = true) (hp : pc + 3 = pc') (kk : ev w d j pc' lo st (hq (T ++ A) (up s c k x)) r) : ev w d j pc lo (iv x :: .ref (tb_nK + c) :: st) (hq (T ++ A) s) r :=
  c_puti pc' hm hc (ap_at hn hA hci) hF hx hp kk
theorem k_getr (pc' : Nat) (hm : ev_M j nL ret) {ix : Nat} (hc : tb_co j pc = some (.getfield ix, ci, k, 0)) {F : List (Option (Option Nat))} (hn : T.length = n) (hA : A[i]? = some (.inl (ci, F))) (hci : n + i = c) (hF : F[k]? = some (some (some a))) (hp : pc + 3 = pc') (kk : ev w d j pc' lo (.ref (tb_nK + a) :: st) (hq (T ++ A) s) r) : ev w d j pc lo (.ref (tb_nK + c) :: st) (hq (T ++ A) s) r := by
  subst hp
  refine ev_hp hm hc (st' := .ref (tb_nK + a) :: st) (h' := hq (T ++ A) s) (dc := 0) (ds := 0) ?_ (am_plus0 r) kk
  simp only [am_hp]
  have e0 : (hq (T ++ A) s)[c]? = some (.inr (ci, F.mapIdx (fun k f => hq_v (s c) k f))) := hq_at (ap_at hn hA hci)
  rw [if_neg (hp_nK c), hp_sub, e0]
  simp only
  rw [if_pos trivial, List.getElem?_mapIdx, hF]
  rfl
theorem k_ret (hm : ev_M j nL none) (hc : tb_co j pc = some (.return_, 0, 0, 0)) : ev w d j pc lo [] h (none, h, 0, 0) := ev_rt hm hc rfl
end CT
