/-! the second reading: every step of a body -/
section R2d
variable {F : Nat → Int} {n N : Nat} {P : Nat → Nat} {s0 t0 s s1 s' : iS} {j m : Nat} {Kf : List Nat} {Uf : List urec} {pa : Nat → Int} {wl : List wrec} {cv c : Nat} {so ow obj : Int} {L n0 : List Nat} {a a0 : List crec × Int} {l : List itm} {r : itm}
theorem MDe (h : ∀ c' k, ¬ (15 ≤ c' ∧ c' ≤ 19) → ¬ (c' = 14 ∧ (k = 8 ∨ k = 12)) → s1 c' k = s c' k) : MD s s1 := MDc (fun c' k z1 z2 _ => h c' k z1 z2)
theorem MDn (h : ∀ c' k, ¬ (c' = 2 ∧ (k = 13 ∨ k = 14)) → s1 c' k = s c' k) : MD s s1 := MDc (fun c' k _ _ z3 => h c' k z3)
theorem MDt {s2 : iS} (h1 : MD s s1) (h2 : MD s1 s2) : MD s s2 := fun c' k z1 z2 => (h2 c' k z1 z2).trans (h1 c' k z1 z2)
theorem BLm (h : BLc L s) (hm : ∀ c' k, ¬ (15 ≤ c' ∧ c' ≤ 19) → ¬ (c' = 14 ∧ (k = 8 ∨ k = 12)) → s1 c' k = s c' k) : BLc L s1 := BLc_of h (hm 2 13 (by omega) (by omega)) (hm 2 14 (by omega) (by omega))
theorem EMn {cs : List crec} {pm : Int} (h : EMc cs pm s) (hm : ∀ c' k, ¬ (c' = 2 ∧ (k = 13 ∨ k = 14)) → s1 c' k = s c' k) : EMc cs pm s1 := EMc_of h (fun c' k q => hm c' k (by omega))
/-- a variable's notes -/
theorem chk2 (hX : X2B F P s0 t0 N Kf Uf pa wl cv c so s) (hso : so = 1 ∨ so = 2 ∨ so = 3) (hj : j < 2001) (hb : BLc L s) : ∃ s1, trl_checkVariable (fvW F P t0 wl cv j) (j : Int) s = some (0, s1) ∧ BLc (L ++ ntV F P t0 wl cv so j) s1 ∧ (∀ c k, ¬ (c = 2 ∧ (k = 13 ∨ k = 14)) → s1 c k = s c k) := by
  obtain ⟨h1, h2, h3, h4, h5, h6, h7⟩ := hX
  have hvl : (vNs F P t0 wl).length = wl.length := by simp [vNs]
  have rg : -1 ≤ fvW F P t0 wl cv j ∧ fvW F P t0 wl cv j < (wl.length : Int) := by
    unfold fvW fvT
    have q1 := fst1_rg (P := fun i => (vNs F P t0 wl).getD i [] = nmT F P t0 j) ((vNs F P t0 wl).length - cv) cv
    have q2 := fst1_rg (P := fun i => (vNs F P t0 wl).getD i [] = nmT F P t0 j) cv 0
    have q3 := h6.2.2.2.2
    split <;> omega
  have hl := h6.2.2.1
  unfold trl_checkVariable trl_checkVariable_24 ntV wAt
  rw [h2, gr (by omega), if_neg (by omega), gr (by omega)]
  by_cases c1 : fvW F P t0 wl cv j = -1
  · rw [if_pos c1, if_pos c1]
    obtain ⟨s1, b1, b2, b3⟩ := bl_add (f := 4) (t := j) hb (by omega) hj
    rw [show ((4 : Nat) : Int) = 4 from rfl] at b1
    exact ⟨s1, by rw [b1, bq], b2, b3⟩
  · obtain ⟨q1, q2, q3, q4, q5, q6⟩ := h7 (fvW F P t0 wl cv j).toNat (by omega)
    have sr : 1 ≤ sgT (wl.getD (fvW F P t0 wl cv j).toNat (0, 0, 0, 0, 0, 0, 0)) ∧ sgT (wl.getD (fvW F P t0 wl cv j).toNat (0, 0, 0, 0, 0, 0, 0)) ≤ 4 := by
      unfold sgT
      split
      · omega
      · split
        · omega
        · split <;> omega
    rw [if_neg c1, if_neg c1, gr (by omega), if_neg (by omega), h3, gr (by omega)]
    by_cases c2 : so = 2
    · rw [if_pos (by omega), gd_pos (by omega), q2, gr (by omega)]
      by_cases c3 : sgT (wl.getD (fvW F P t0 wl cv j).toNat (0, 0, 0, 0, 0, 0, 0)) = 4
      · rw [if_pos c3, if_pos ⟨c2, c3⟩]
        obtain ⟨s1, b1, b2, b3⟩ := bl_add (f := 6) (t := j) hb (by omega) hj
        rw [show ((6 : Nat) : Int) = 6 from rfl] at b1
        exact ⟨s1, by rw [b1, bq], b2, b3⟩
      · rw [if_neg c3, if_neg (fun q => c3 q.2), List.append_nil]
        exact ⟨s, rfl, hb, fun _ _ _ => rfl⟩
    · rw [if_neg (by omega), if_neg (fun q => c2 q.1), List.append_nil]
      exact ⟨s, rfl, hb, fun _ _ _ => rfl⟩
theorem fvW_rg (hX : X2B F P s0 t0 N Kf Uf pa wl cv c so s) : -1 ≤ fvW F P t0 wl cv j ∧ fvW F P t0 wl cv j < (wl.length : Int) ∧ wl.length ≤ 48 := by
  have h6 := hX.2.2.2.2.2.1
  have hvl : (vNs F P t0 wl).length = wl.length := by simp [vNs]
  have hl := h6.2.2.1
  unfold fvW fvT
  have q1 := fst1_rg (P := fun i => (vNs F P t0 wl).getD i [] = nmT F P t0 j) ((vNs F P t0 wl).length - cv) cv
  have q2 := fst1_rg (P := fun i => (vNs F P t0 wl).getD i [] = nmT F P t0 j) cv 0
  have q3 := h6.2.2.2.2
  split <;> omega
/-- a variable's command -/
theorem adv2 {kd : Int} (hkd : 0 ≤ kd ∧ kd < 2) (hX : X2B F P s0 t0 N Kf Uf pa wl cv c so s) (he : EMc a.1 a.2 s) : ∃ s1, trl_addVariable kd (fvW F P t0 wl cv j) s = some (0, s1) ∧ EMc (emA a (emV F P t0 wl cv so kd j)).1 (emA a (emV F P t0 wl cv so kd j)).2 s1 ∧ (∀ c' k, ¬ (15 ≤ c' ∧ c' ≤ 19) → ¬ (c' = 14 ∧ (k = 8 ∨ k = 12)) → s1 c' k = s c' k) := by
  have rg := fvW_rg (j := j) hX
  have h7 := hX.2.2.2.2.2.2
  unfold trl_addVariable emV wAt
  rw [gr (by omega)]
  by_cases c1 : fvW F P t0 wl cv j = -1
  · rw [if_pos (by omega), if_pos c1]
    exact ⟨s, rfl, he, fun _ _ _ _ => rfl⟩
  · obtain ⟨q1, q2, q3, q4, q5, q6⟩ := h7 (fvW F P t0 wl cv j).toNat (by omega)
    have sr : 1 ≤ sgT (wl.getD (fvW F P t0 wl cv j).toNat (0, 0, 0, 0, 0, 0, 0)) ∧ sgT (wl.getD (fvW F P t0 wl cv j).toNat (0, 0, 0, 0, 0, 0, 0)) ≤ 4 := by
      unfold sgT
      split
      · omega
      · split
        · omega
        · split <;> omega
    rw [if_neg (by omega), if_neg (by omega), if_neg c1, gd_pos (by omega), q2, q3]
    obtain ⟨s1, s2, b1, b2, b3, b4, b5⟩ := ema2 (x := kd) (y := sgT (wl.getD (fvW F P t0 wl cv j).toNat (0, 0, 0, 0, 0, 0, 0))) (z := nuT so (wl.getD (fvW F P t0 wl cv j).toNat (0, 0, 0, 0, 0, 0, 0))) (w := (wl.getD (fvW F P t0 wl cv j).toNat (0, 0, 0, 0, 0, 0, 0)).2.2.2.2.2.2) he ⟨by omega, by omega, fun z1 z2 => by omega⟩ (by omega)
    have e39 : s1 39 (fvW F P t0 wl cv j).toNat = (wl.getD (fvW F P t0 wl cv j).toNat (0, 0, 0, 0, 0, 0, 0)).2.2.2.2.2.2 := by
      rw [b5 39 _ (by omega) (by omega)]
      exact q4
    rw [b1, bq, e39, b2, bq]
    exact ⟨s2, rfl, b3, b4⟩
/-- this is asked for -/
theorem ask2 (hX : X2B F P s0 t0 N Kf Uf pa wl cv c so s) (hso : so = 1 ∨ so = 2 ∨ so = 3) (hj : j < 2001) (hb : BLc L s) : ∃ s1, trl_askForThis (j : Int) s = some (0, s1) ∧ BLc (L ++ (if so = 2 then [16 * j + 6] else [])) s1 ∧ (∀ c k, ¬ (c = 2 ∧ (k = 13 ∨ k = 14)) → s1 c k = s c k) := by
  obtain ⟨h1, h2, h3, _⟩ := hX
  unfold trl_askForThis
  rw [h2, gr (by omega), if_neg (by omega), h3, gr (by omega)]
  by_cases c2 : so = 2
  · rw [if_pos (by omega), if_pos c2]
    obtain ⟨s1, b1, b2, b3⟩ := bl_add (f := 6) (t := j) hb (by omega) hj
    rw [show ((6 : Nat) : Int) = 6 from rfl] at b1
    exact ⟨s1, by rw [b1, bq], b2, b3⟩
  · rw [if_neg (by omega), if_neg c2, List.append_nil]
    exact ⟨s, rfl, hb, fun _ _ _ => rfl⟩
theorem BLc_dup {M : List Nat} (h : BLc L s) (hM : ∀ k ∈ M, k ∈ L) : BLc (L ++ M) s := by
  have e : kMn (L ++ M) = kMn L := kMn_mem (fun k => ⟨fun q => (List.mem_append.mp q).elim id (hM k), fun q => List.mem_append_left _ q⟩)
  unfold BLc at h ⊢
  rw [e]
  exact h
/-- an operator's command -/
theorem op2 {x : Int} (hx : rg x) (he : EMc a.1 a.2 s) : ∃ s1, trl_addOperator x s = some (0, s1) ∧ EMc (emA a [opC x]).1 (emA a [opC x]).2 s1 ∧ (∀ c' k, ¬ (15 ≤ c' ∧ c' ≤ 19) → ¬ (c' = 14 ∧ (k = 8 ∨ k = 12)) → s1 c' k = s c' k) := by
  have P1 : ∀ k : Int, 0 ≤ k ∧ k < 11 → ∃ s1, bd (prg_add k 0 0 s) (fun _ s3 => some ((0 : Int), s3)) = some (0, s1) ∧ EMc (emA a [(k, 0, 0, 0)]).1 (emA a [(k, 0, 0, 0)]).2 s1 ∧ (∀ c' k, ¬ (15 ≤ c' ∧ c' ≤ 19) → ¬ (c' = 14 ∧ (k = 8 ∨ k = 12)) → s1 c' k = s c' k) := fun k hk => by
    obtain ⟨s1, b1, b2, b3⟩ := ema1 (x := k) (y := 0) (z := 0) (tg := 0) he (Or.inl rfl) (by omega)
    exact ⟨s1, by rw [b1, bq], b2, b3⟩
  have P2 : ∀ k : Int, 0 ≤ k ∧ k < 11 → ∃ s1, bd (prg_add 15 k 2 s) (fun _ s5 => bd (prg_aim k s5) (fun _ s6 => some ((0 : Int), s6))) = some (0, s1) ∧ EMc (emA a [(15, k, 2, k)]).1 (emA a [(15, k, 2, k)]).2 s1 ∧ (∀ c' k, ¬ (15 ≤ c' ∧ c' ≤ 19) → ¬ (c' = 14 ∧ (k = 8 ∨ k = 12)) → s1 c' k = s c' k) := fun k hk => by
    obtain ⟨s1, s2, b1, b2, b3, b4, _⟩ := ema2 (x := 15) (y := k) (z := 2) (w := k) he (by omega) (by omega)
    exact ⟨s2, by rw [b1, bq, b2, bq], b3, b4⟩
  unfold trl_addOperator opC
  rw [gd_pos hx]
  by_cases c1 : x = 38
  · rw [if_pos c1, if_pos c1]; exact P1 5 (by omega)
  rw [if_neg c1, if_neg c1]
  by_cases c2 : x = 42
  · rw [if_pos c2, if_pos c2]; exact P2 3 (by omega)
  rw [if_neg c2, if_neg c2]
  by_cases c3 : x = 43
  · rw [if_pos c3, if_pos c3]; exact P1 2 (by omega)
  rw [if_neg c3, if_neg c3]
  by_cases c4 : x = 45
  · rw [if_pos c4, if_pos c4]; exact P1 3 (by omega)
  rw [if_neg c4, if_neg c4]
  by_cases c5 : x = 47
  · rw [if_pos c5, if_pos c5]; exact P2 4 (by omega)
  rw [if_neg c5, if_neg c5]
  by_cases c6 : x = 60
  · rw [if_pos c6, if_pos c6]; exact P1 9 (by omega)
  rw [if_neg c6, if_neg c6]
  by_cases c7 : x = 62
  · rw [if_pos c7, if_pos c7]; exact P1 10 (by omega)
  rw [if_neg c7, if_neg c7]
  by_cases c8 : x = 124
  · rw [if_pos c8, if_pos c8]; exact P1 6 (by omega)
  rw [if_neg c8, if_neg c8]
  exact P1 8 (by omega)
end R2d
