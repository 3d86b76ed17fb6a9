/-! more rules of constructors: copyOf called, ends of constructors that are loops -/
section CT1
variable {T A A' : List hq_T} {s s' : iS} {c k n i ci t a m : Nat} {st : List Value} {w : ev_W} {d j pc nL : Nat} {ret : Option FieldType} {lo : am_L} {r : am_E} {dc ds : Nat} {v : Option Value} {h h' : List am_C}
def cof (n L : Nat) (g : Nat → Int32) (s : iS) : iS := sr s n (fun x => if x < L then (g x).toInt else 0)
theorem k_cof (pc' : Nat) (hm : ev_M j nL ret) {ix q L N : Nat} {g : Nat → Int32} (hc : tb_co j pc = some (.invokestatic ix, 20, 2, 0)) (hd : 3 ≤ d) (h8 : Nat.ble (am_cat st) 8 = true) (hn : T.length = n) (hA : A.length = i) (hi : n + i = m) (hz : zb m s) (h_q : q < tb_nK) (hk : (tb_KT w.2.1 w.2.2)[q]? = some (.int, L, g)) (hLN : L < N) (hN : N < 67108864) (hp : pc + 3 = pc') (hdc : 1 + dc = c) (hds : N + ds = k) (hA' : A ++ [.inr (0, N)] = A') (kk : ev w d j pc' lo (.ref (tb_nK + m) :: st) (hq (T ++ A') (cof m L g s)) (v, h', dc, ds)) : ev w d j pc lo (iv (N : Int) :: .ref q :: st) (hq (T ++ A) s) (v, h', c, k) := by
  subst hp hdc hds hA'
  obtain ⟨d, rfl⟩ : ∃ n, d = n + 1 := ⟨d - 1, by omega⟩
  rw [← List.append_assoc] at kk
  exact ev_iv hm hc (iv_s2 h8) em_20 (Nat.le_of_ble_eq_true rfl) rfl (kt_copyOf w d (by omega) (by rw [List.length_append, hn, hA, hi]) hz h_q hk hLN hN) kk
theorem k_ldcw (pc' : Nat) (hm : ev_M j nL ret) {ix v : Nat} {x : Int} (hc : tb_co j pc = some (.ldc_w ix, v, 0, 0)) (hv : Int32.ofNat v = Int32.ofInt x) (hn : pc + 3 = pc') (kk : ev w d j pc' lo (iv x :: st) h r) : ev w d j pc lo st h r := k_kc pc' hm hc (by simp only [am_kc, iv, hv]) rfl hn kk
/-- the rest of a constructor that a function tells -/
theorem k_tail (H : iS → List am_C) {f : Option (Int × iS)} (k1 : Ew H w d j pc lo [] s (Cv H) f) (hf : f = some (0, s')) : ev w d j pc lo [] (H s) (none, H s', 0, 0) := k1 (0, s') _ hf rfl
theorem zb_addW {W : List (Int × Int)} {c a b m : Nat} (hz : zb n s) (hc : Nat.blt c n = true) (ha : Nat.blt a n = true) (hb : Nat.blt b n = true) : zb n (addW W c a b m s) := by
  intro c' h1
  have e1 := Nat.blt_eq.mp hc
  have e2 := Nat.blt_eq.mp ha
  have e3 := Nat.blt_eq.mp hb
  funext k'
  show addW W c a b m s c' k' = 0
  unfold addW
  rw [if_neg (by omega), if_neg (by omega), if_neg (by omega), hz c' h1]
theorem zb_sr {g : Nat → Int} (hz : zb n s) (hc : Nat.blt c n = true) : zb n (sr s c g) := by
  intro c' h1
  have e1 := Nat.blt_eq.mp hc
  funext k'
  show sr s c g c' k' = 0
  unfold sr
  rw [if_neg (by omega), hz c' h1]
theorem zb_cof {L : Nat} {g : Nat → Int32} (hz : zb n s) (hc : Nat.blt c n = true) : zb n (cof c L g s) := zb_sr hz hc
end CT1
/-- Scope: the roles of the system's subs -/
def scpT (s : iS) : iS := sr s 32 (fun i => if i < 40 then (if i = 11 ∨ 13 ≤ i ∧ i ≤ 20 then 259 else 258) else s 32 i)
theorem scp_tail_ok (s : iS) : scp_tail_193 s = some (0, scpT s) := by
  unfold scp_tail_193 scp_tail_195
  have E := lp_run (f := fun l : Int × iS => scp_tail_195b (l.1) (l.2)) (fun k : Nat => ((k : Int), sr s 32 (fun i => if i < k then (if i = 11 ∨ 13 ≤ i ∧ i ≤ 20 then 259 else 258) else s 32 i))) (scpT s) 40 (fun k hk => by
    have st : ∀ x : Int, (x = if k = 11 ∨ 13 ≤ k ∧ k ≤ 20 then 259 else 258) → scp_tail_243 (k : Int) x (k : Int) (sr s 32 (fun i => if i < k then (if i = 11 ∨ 13 ≤ i ∧ i ≤ 20 then 259 else 258) else s 32 i)) = some (.inl (((k + 1 : Nat) : Int), sr s 32 (fun i => if i < k + 1 then (if i = 11 ∨ 13 ≤ i ∧ i ≤ 20 then 259 else 258) else s 32 i))) := by
      intro x hx
      unfold scp_tail_243
      rw [gd_pos (by omega), lt_eq, Int.toNat_natCast, sr_up (g := fun i => if i = 11 ∨ 13 ≤ i ∧ i ≤ 20 then 259 else 258) hx]
      rfl
    simp only [scp_tail_195b, scp_tail_219, scp_tail_223, scp_tail_224]
    rw [gr (by omega), if_neg (by omega)]
    by_cases c1 : k = 11
    · rw [if_pos (by omega), gr (by omega), if_neg (by omega), st 259 (by rw [if_pos (by omega)])]
    · rw [if_neg (by omega)]
      by_cases c2 : k < 13
      · rw [if_pos (by omega), gr (by omega), if_pos (by trivial), st 258 (by rw [if_neg (by omega)])]
      · rw [if_neg (by omega)]
        by_cases c3 : 20 < k
        · rw [if_pos (by omega), gr (by omega), if_pos (by trivial), st 258 (by rw [if_neg (by omega)])]
        · rw [if_neg (by omega), gr (by omega), if_neg (by omega), st 259 (by rw [if_pos (by omega)])]) (by
    simp only [scp_tail_195b]
    rw [gr (by omega), if_pos (by omega)]
    rfl) 40 0 (by omega)
  have z : sr s 32 (fun i => if i < 0 then (if i = 11 ∨ 13 ≤ i ∧ i ≤ 20 then 259 else 258) else s 32 i) = s := sr_0 (g := fun i => if i = 11 ∨ 13 ≤ i ∧ i ≤ 20 then 259 else 258)
  simp only [z] at E
  have E' : lp (L := Int × iS) (E := iS) (fun l => scp_tail_195b (l.1) (l.2)) (0, s) = _ := E
  rw [E', bn]
def crdT (s : iS) : iS := up (up (up (up s 76 1 3) 76 2 5) 77 0 2) 77 1 4
theorem crd_tail_ok (s : iS) : crd_tail_132 s = some (0, crdT s) := rfl
def cckT (s : iS) : iS := up (up (up (up (up (up (up (up (up (up (up (up s 91 0 1) 92 0 0) 91 1 1) 92 1 1) 91 2 1) 92 2 2) 91 3 1) 92 3 0) 91 4 1) 92 4 1) 93 0 3) 93 1 2
theorem cck_st {s : iS} {k : Nat} (hk : k < 5) : cck_tail_150b (k : Int) s = some (.inl (((k + 1 : Nat) : Int), up (up s 91 k 1) 92 k ((k : Int) - (if k < 3 then 0 else 3)))) := by
  unfold cck_tail_150b cck_tail_178
  rw [gr (by omega), if_neg (by omega), gd_pos (by omega)]
  simp only [lt_eq, Int.toNat_natCast]
  by_cases c : k < 3
  · rw [if_neg (by omega), if_pos c, gd_pos (by omega)]
    rfl
  · rw [if_pos (by omega), if_neg c, gd_pos (by omega)]
    rfl
theorem cck_tail_ok (s : iS) : cck_tail_148 s = some (0, cckT s) := by
  unfold cck_tail_148 cck_tail_150
  have E := lp_next (f := fun l : Int × iS => cck_tail_150b (l.1) (l.2)) (l := ((0 : Nat), s)) (cck_st (k := 0) (by decide))
  rw [lp_next (f := fun l : Int × iS => cck_tail_150b (l.1) (l.2)) (l := ((0 + 1 : Nat), _)) (cck_st (k := 0 + 1) (by decide)),
    lp_next (f := fun l : Int × iS => cck_tail_150b (l.1) (l.2)) (l := ((0 + 1 + 1 : Nat), _)) (cck_st (k := 0 + 1 + 1) (by decide)),
    lp_next (f := fun l : Int × iS => cck_tail_150b (l.1) (l.2)) (l := ((0 + 1 + 1 + 1 : Nat), _)) (cck_st (k := 0 + 1 + 1 + 1) (by decide)),
    lp_next (f := fun l : Int × iS => cck_tail_150b (l.1) (l.2)) (l := ((0 + 1 + 1 + 1 + 1 : Nat), _)) (cck_st (k := 0 + 1 + 1 + 1 + 1) (by decide))] at E
  have F : ∀ u : iS, lp (fun l : Int × iS => cck_tail_150b (l.1) (l.2)) (((0 + 1 + 1 + 1 + 1 + 1 : Nat) : Int), u) = some u := fun u => lp_end (by
    simp only [cck_tail_150b]
    rw [gr (by omega), if_pos (by omega)])
  rw [F] at E
  have E' : lp (L := Int × iS) (E := iS) (fun l => cck_tail_150b (l.1) (l.2)) (0, s) = _ := E
  rw [E', bn]
  rfl
