/-! the second reading: commands as a list; the least note -/
/-- a command: kind, first, second, target, mark -/
abbrev crec := Int × Int × Int × Int × Int
/-- a command that may be put down -/
def cOK (x : crec) : Prop := (0 ≤ x.1 ∧ x.1 < 20) ∧ (-100000 ≤ x.2.1 ∧ x.2.1 ≤ 100000) ∧ (11 ≤ x.1 → x.1 ≤ 13 → 0 ≤ x.2.1 ∧ x.2.1 < 1000)
/-- the program so far; a target of -9 says nothing -/
def EMc (cs : List crec) (pm : Int) (s : iS) : Prop := s 14 7 = 1 ∧ s 14 8 = ((min cs.length 3000 : Nat) : Int) ∧ (∀ i, i < min cs.length 3000 → s 15 i = (cs.getD i (0, 0, 0, 0, 0)).1 ∧ s 16 i = (cs.getD i (0, 0, 0, 0, 0)).2.1 ∧ s 17 i = (cs.getD i (0, 0, 0, 0, 0)).2.2.1) ∧ (∀ i, i < min cs.length 3000 → (cs.getD i (0, 0, 0, 0, 0)).1 = 15 → -100000 ≤ s 18 i ∧ s 18 i ≤ 100000) ∧ (∀ x ∈ cs, cOK x) ∧ (cs.length ≤ 3000 → s 14 12 = pm ∧ ∀ i, i < cs.length → ((cs.getD i (0, 0, 0, 0, 0)).2.2.2.1 ≠ -9 → s 18 i = (cs.getD i (0, 0, 0, 0, 0)).2.2.2.1) ∧ s 19 i = (cs.getD i (0, 0, 0, 0, 0)).2.2.2.2)
/-- the least of some notes: 16 times the token and the number -/
def kMn (L : List Nat) : Nat := L.foldr min 100000
def BLc (L : List Nat) (s : iS) : Prop := (kMn L = 100000 ∧ s 2 13 = 0 ∧ s 2 14 = -1) ∨ (kMn L < 100000 ∧ s 2 13 = ((kMn L % 16 : Nat) : Int) ∧ s 2 14 = ((kMn L / 16 : Nat) : Int) ∧ 0 < kMn L % 16)
section R2a
variable {cs : List crec} {pm a b c x m : Int} {s : iS} {L : List Nat}
theorem MDc {s1 : iS} (h : ∀ c' k, ¬ (15 ≤ c' ∧ c' ≤ 19) → ¬ (c' = 14 ∧ (k = 8 ∨ k = 12)) → ¬ (c' = 2 ∧ (k = 13 ∨ k = 14)) → s1 c' k = s c' k) : MD s s1 := by
  intro c' k h1 h2
  refine h c' k (fun q => h1 ?_) (fun q => h2 ?_) (fun q => h2 ?_)
  · simp only [List.mem_cons, List.not_mem_nil, or_false]
    omega
  · simp only [List.mem_cons, List.not_mem_nil, or_false, Prod.mk.injEq]
    omega
  · simp only [List.mem_cons, List.not_mem_nil, or_false, Prod.mk.injEq]
    omega
theorem em_add {tg : Int} (h : EMc cs pm s) (ht : tg = 0 ∨ tg = -9) (ho : cOK (a, b, c, tg, pm)) : ∃ s1, prg_add a b c s = some (0, s1) ∧ EMc (cs ++ [(a, b, c, tg, pm)]) (-1) s1 ∧ (∀ c' k, ¬ (15 ≤ c' ∧ c' ≤ 19) → ¬ (c' = 14 ∧ (k = 8 ∨ k = 12)) → s1 c' k = s c' k) := by
  obtain ⟨h1, h2, h3, h4, h5, h6⟩ := h
  have hl : (cs ++ [(a, b, c, tg, pm)]).length = cs.length + 1 := by simp
  have h5' : ∀ x ∈ cs ++ [(a, b, c, tg, pm)], cOK x := fun x hx => by
    rcases List.mem_append.mp hx with q | q
    · exact h5 x q
    · rw [List.mem_singleton.mp q]; exact ho
  by_cases cf : 3000 ≤ cs.length
  · refine ⟨s, ?_, ⟨h1, by rw [h2, hl]; congr 1; omega, fun i hi => ?_, fun i hi => by rw [hl] at hi; rw [gd_app (by omega)]; exact h4 i (by omega), h5', fun q => by rw [hl] at q; omega⟩, fun _ _ _ _ => rfl⟩
    · unfold prg_add
      rw [h1, gr (by omega), if_neg (by omega), h2, gr (by omega), if_pos (by omega)]
    · rw [hl] at hi
      rw [gd_app (by omega)]
      exact h3 i (by omega)
  · have hk : s 14 8 = (cs.length : Int) := by rw [h2]; congr 1; omega
    have hk2 : cs.length < 3000 := by omega
    generalize hkk : cs.length = k at *
    have u1 : up s 15 k a 14 8 = (k : Int) := by rw [up_ne (by omega)]; exact hk
    have u2 : up (up s 15 k a) 16 k b 14 8 = (k : Int) := by rw [up_ne (by omega)]; exact u1
    have u3 : up (up (up s 15 k a) 16 k b) 17 k c 14 8 = (k : Int) := by rw [up_ne (by omega)]; exact u2
    have u4 : up (up (up (up s 15 k a) 16 k b) 17 k c) 18 k 0 14 8 = (k : Int) := by rw [up_ne (by omega)]; exact u3
    have u5 : up (up (up (up s 15 k a) 16 k b) 17 k c) 18 k 0 14 12 = s 14 12 := by rw [up_ne (by omega), up_ne (by omega), up_ne (by omega), up_ne (by omega)]
    have u6 : up (up (up (up (up (up s 15 k a) 16 k b) 17 k c) 18 k 0) 19 k (s 14 12)) 14 12 (-1) 14 8 = (k : Int) := by rw [up_ne (by omega), up_ne (by omega)]; exact u4
    have fr : ∀ c' j, ¬ (15 ≤ c' ∧ c' ≤ 19 ∧ j = k) → ¬ (c' = 14 ∧ (j = 8 ∨ j = 12)) → up (up (up (up (up (up (up s 15 k a) 16 k b) 17 k c) 18 k 0) 19 k (s 14 12)) 14 12 (-1)) 14 8 ((k : Int) + 1) c' j = s c' j := fun c' j z1 z2 => by rw [up_ne (by omega), up_ne (by omega), up_ne (by omega), up_ne (by omega), up_ne (by omega), up_ne (by omega), up_ne (by omega)]
    have r15 : up (up (up (up (up (up (up s 15 k a) 16 k b) 17 k c) 18 k 0) 19 k (s 14 12)) 14 12 (-1)) 14 8 ((k : Int) + 1) 15 k = a := by rw [up_ne (by omega), up_ne (by omega), up_ne (by omega), up_ne (by omega), up_ne (by omega), up_ne (by omega), up_same]
    have r16 : up (up (up (up (up (up (up s 15 k a) 16 k b) 17 k c) 18 k 0) 19 k (s 14 12)) 14 12 (-1)) 14 8 ((k : Int) + 1) 16 k = b := by rw [up_ne (by omega), up_ne (by omega), up_ne (by omega), up_ne (by omega), up_ne (by omega), up_same]
    have r17 : up (up (up (up (up (up (up s 15 k a) 16 k b) 17 k c) 18 k 0) 19 k (s 14 12)) 14 12 (-1)) 14 8 ((k : Int) + 1) 17 k = c := by rw [up_ne (by omega), up_ne (by omega), up_ne (by omega), up_ne (by omega), up_same]
    have r18 : up (up (up (up (up (up (up s 15 k a) 16 k b) 17 k c) 18 k 0) 19 k (s 14 12)) 14 12 (-1)) 14 8 ((k : Int) + 1) 18 k = 0 := by rw [up_ne (by omega), up_ne (by omega), up_ne (by omega), up_same]
    have r19 : up (up (up (up (up (up (up s 15 k a) 16 k b) 17 k c) 18 k 0) 19 k (s 14 12)) 14 12 (-1)) 14 8 ((k : Int) + 1) 19 k = s 14 12 := by rw [up_ne (by omega), up_ne (by omega), up_same]
    have r12 : up (up (up (up (up (up (up s 15 k a) 16 k b) 17 k c) 18 k 0) 19 k (s 14 12)) 14 12 (-1)) 14 8 ((k : Int) + 1) 14 12 = -1 := by rw [up_ne (by omega), up_same]
    have r8 : up (up (up (up (up (up (up s 15 k a) 16 k b) 17 k c) 18 k 0) 19 k (s 14 12)) 14 12 (-1)) 14 8 ((k : Int) + 1) 14 8 = (k : Int) + 1 := up_same _ _ _ _
    refine ⟨up (up (up (up (up (up (up s 15 k a) 16 k b) 17 k c) 18 k 0) 19 k (s 14 12)) 14 12 (-1)) 14 8 ((k : Int) + 1), ?_, ?_, fun c' j z1 z2 => fr c' j (by omega) z2⟩
    · unfold prg_add
      rw [h1, gr (by omega), if_neg (by omega), gr (by omega), if_neg (by omega), gd_pos (by omega), lt_eq, hk, Int.toNat_natCast, u1, gd_pos (by omega), lt_eq, Int.toNat_natCast, u2, gd_pos (by omega), lt_eq, Int.toNat_natCast, u3, gd_pos (by omega), lt_eq, Int.toNat_natCast, u4, gd_pos (by omega), lt_eq, Int.toNat_natCast, u5, lt_eq, lt_eq, u6]
    · generalize up (up (up (up (up (up (up s 15 k a) 16 k b) 17 k c) 18 k 0) 19 k (s 14 12)) 14 12 (-1)) 14 8 ((k : Int) + 1) = s1 at *
      have eg : (cs ++ [(a, b, c, tg, pm)]).getD k (0, 0, 0, 0, 0) = (a, b, c, tg, pm) := by rw [← hkk]; exact gd_end
      refine ⟨by rw [fr 14 7 (by omega) (by omega)]; exact h1, by rw [r8, hl]; omega, fun i hi => ?_, fun i hi => ?_, h5', fun q => ?_⟩
      · rw [hl] at hi
        by_cases ci : i < k
        · rw [gd_app (by omega), fr 15 i (by omega) (by omega), fr 16 i (by omega) (by omega), fr 17 i (by omega) (by omega)]
          exact h3 i (by omega)
        · have ei : i = k := by omega
          rw [ei, eg]
          exact ⟨r15, r16, r17⟩
      · rw [hl] at hi
        by_cases ci : i < k
        · rw [gd_app (by omega), fr 18 i (by omega) (by omega)]
          exact h4 i (by omega)
        · have ei : i = k := by omega
          rw [ei, r18]
          intro _
          omega
      · rw [hl] at q
        obtain ⟨b1, b2⟩ := h6 (by omega)
        refine ⟨r12, fun i hi => ?_⟩
        rw [hl] at hi
        by_cases ci : i < k
        · rw [gd_app (by omega), fr 18 i (by omega) (by omega), fr 19 i (by omega) (by omega)]
          exact b2 i ci
        · have ei : i = k := by omega
          rw [ei, eg]
          refine ⟨fun z => ?_, by rw [r19]; exact b1⟩
          rw [r18]
          rcases ht with y | y
          · exact y.symm
          · exact absurd y z
theorem em_aim {y : Int} (h : EMc (cs ++ [(a, b, c, x, m)]) pm s) (hy : -100000 ≤ y ∧ y ≤ 100000) : ∃ s1, prg_aim y s = some (0, s1) ∧ EMc (cs ++ [(a, b, c, y, m)]) pm s1 ∧ (∀ c' k, ¬ (15 ≤ c' ∧ c' ≤ 19) → ¬ (c' = 14 ∧ (k = 8 ∨ k = 12)) → s1 c' k = s c' k) := by
  obtain ⟨h1, h2, h3, h4, h5, h6⟩ := h
  have hl : ∀ z, (cs ++ [(a, b, c, z, m)]).length = cs.length + 1 := fun z => by simp
  have h5' : ∀ z ∈ cs ++ [(a, b, c, y, m)], cOK z := fun z hz => by
    rcases List.mem_append.mp hz with q | q
    · exact h5 z (List.mem_append_left _ q)
    · rw [List.mem_singleton.mp q]
      exact h5 (a, b, c, x, m) (List.mem_append_right _ (List.mem_singleton.mpr rfl))
  rw [hl] at h2 h3 h6
  obtain ⟨k, hk⟩ : ∃ k : Nat, s 14 8 = ((k + 1 : Nat) : Int) := ⟨(s 14 8).toNat - 1, by omega⟩
  have hk2 : k < 3000 := by omega
  unfold prg_aim
  rw [h1, gr (by omega), if_neg (by omega), gr (by omega), if_neg (by omega), gd_pos (by omega), lt_eq, show (s 14 8 - 1).toNat = k by omega]
  refine ⟨_, rfl, ⟨by rw [up_ne (by omega)]; exact h1, by rw [up_ne (by omega), hl]; exact h2, fun i hi => ?_, fun i hi => ?_, h5', fun q => ?_⟩, fun c' j z1 z2 => up_ne (by omega)⟩
  · rw [hl] at hi
    have := h3 i hi
    rw [up_ne (by omega), up_ne (by omega), up_ne (by omega)]
    by_cases ci : i < cs.length
    · rw [gd_app ci] at this ⊢
      exact this
    · have ei : i = cs.length := by omega
      rw [ei, gd_end] at this
      rw [ei, gd_end]
      exact this
  · rw [hl] at hi
    by_cases ci : i = k
    · rw [ci, up_same]; exact fun _ => hy
    · rw [up_ne (by omega)]
      have := h4 i (by rw [hl]; exact hi)
      by_cases cj : i < cs.length
      · rw [gd_app cj] at this ⊢
        exact this
      · have ei : i = cs.length := by omega
        rw [ei, gd_end] at this
        rw [ei, gd_end]
        exact this
  · rw [hl] at q
    obtain ⟨b1, b2⟩ := h6 q
    have ek : k = cs.length := by omega
    refine ⟨by rw [up_ne (by omega)]; exact b1, fun i hi => ?_⟩
    rw [hl] at hi
    by_cases ci : i < cs.length
    · have := b2 i (by omega)
      rw [gd_app ci] at this ⊢
      rw [up_ne (by omega), up_ne (by omega)]
      exact this
    · have ei : i = cs.length := by omega
      have := b2 i (by omega)
      rw [ei, gd_end] at this
      rw [ei, gd_end, ek, up_same, up_ne (by omega)]
      exact ⟨fun _ => rfl, this.2⟩
theorem em_mark {y : Int} (h : EMc cs pm s) : EMc cs y (up s 14 12 y) := by
  obtain ⟨h1, h2, h3, h4, h5, h6⟩ := h
  refine ⟨by rw [up_ne (by omega)]; exact h1, by rw [up_ne (by omega)]; exact h2, fun i hi => by rw [up_ne (by omega), up_ne (by omega), up_ne (by omega)]; exact h3 i hi, fun i hi q => by rw [up_ne (by omega)]; exact h4 i hi q, h5, fun q => ?_⟩
  obtain ⟨b1, b2⟩ := h6 q
  exact ⟨up_same _ _ _ _, fun i hi => by rw [up_ne (by omega), up_ne (by omega)]; exact b2 i hi⟩
theorem EMc_of {s' : iS} (h : EMc cs pm s) (hf : ∀ c' k, 15 ≤ c' ∧ c' ≤ 19 ∨ c' = 14 ∧ (k = 7 ∨ k = 8 ∨ k = 12) → s' c' k = s c' k) : EMc cs pm s' := by
  obtain ⟨h1, h2, h3, h4, h5, h6⟩ := h
  refine ⟨by rw [hf 14 7 (by omega)]; exact h1, by rw [hf 14 8 (by omega)]; exact h2, fun i hi => by rw [hf 15 i (by omega), hf 16 i (by omega), hf 17 i (by omega)]; exact h3 i hi, fun i hi q => by rw [hf 18 i (by omega)]; exact h4 i hi q, h5, fun q => ?_⟩
  obtain ⟨b1, b2⟩ := h6 q
  exact ⟨by rw [hf 14 12 (by omega)]; exact b1, fun i hi => by rw [hf 18 i (by omega), hf 19 i (by omega)]; exact b2 i hi⟩
theorem kMn_app (L : List Nat) (k : Nat) : kMn (L ++ [k]) = min (kMn L) (min k 100000) := by
  unfold kMn
  induction L with
  | nil => show min k 100000 = min 100000 (min k 100000); omega
  | cons y L ih => rw [List.cons_append, List.foldr_cons, List.foldr_cons, ih]; omega
theorem kMn_le (L : List Nat) : kMn L ≤ 100000 := by
  unfold kMn
  induction L with
  | nil => exact Nat.le_refl _
  | cons y L ih => rw [List.foldr_cons]; omega
theorem bl_add {f t : Nat} (h : BLc L s) (hf : 1 ≤ f ∧ f ≤ 7) (ht : t < 2001) : ∃ s1, tok_blame (f : Int) (t : Int) s = some (0, s1) ∧ BLc (L ++ [16 * t + f]) s1 ∧ (∀ c k, ¬ (c = 2 ∧ (k = 13 ∨ k = 14)) → s1 c k = s c k) := by
  have B31 : tok_blame_31 (f : Int) (t : Int) s = some (0, up (up s 2 13 (f : Int)) 2 14 (t : Int)) := rfl
  have fr : ∀ c k, ¬ (c = 2 ∧ (k = 13 ∨ k = 14)) → up (up s 2 13 (f : Int)) 2 14 (t : Int) c k = s c k := fun c k z => by rw [up_ne (by omega), up_ne (by omega)]
  have e13 : up (up s 2 13 (f : Int)) 2 14 (t : Int) 2 13 = (f : Int) := by rw [up_ne (by omega), up_same]
  have e14 : up (up s 2 13 (f : Int)) 2 14 (t : Int) 2 14 = (t : Int) := up_same _ _ _ _
  have new : kMn (L ++ [16 * t + f]) = 16 * t + f → BLc (L ++ [16 * t + f]) (up (up s 2 13 (f : Int)) 2 14 (t : Int)) := fun q => Or.inr ⟨by omega, by rw [e13, q]; omega, by rw [e14, q]; omega, by omega⟩
  have ka := kMn_app L (16 * t + f)
  unfold tok_blame
  rcases h with ⟨h1, h2, h3⟩ | ⟨h1, h2, h3, h4⟩
  · rw [h2, gr (by omega), if_pos rfl, B31]
    exact ⟨_, rfl, new (by omega), fr⟩
  · have old : kMn L ≤ 16 * t + f → BLc (L ++ [16 * t + f]) s := fun q => by
      have e : kMn (L ++ [16 * t + f]) = kMn L := by omega
      exact Or.inr ⟨by omega, by rw [e]; exact h2, by rw [e]; exact h3, by omega⟩
    rw [h2, gr (by omega), if_neg (by omega), gr (by omega), h3, gr (by omega)]
    by_cases c1 : (t : Int) < ((kMn L / 16 : Nat) : Int)
    · rw [if_pos c1, B31]
      exact ⟨_, rfl, new (by omega), fr⟩
    · rw [if_neg c1]
      by_cases c2 : (t : Int) = ((kMn L / 16 : Nat) : Int)
      · rw [if_pos c2, gr (by omega)]
        by_cases c3 : ((kMn L % 16 : Nat) : Int) ≤ (f : Int)
        · rw [if_pos c3]
          exact ⟨s, rfl, old (by omega), fun _ _ _ => rfl⟩
        · rw [if_neg c3, B31]
          exact ⟨_, rfl, new (by omega), fr⟩
      · rw [if_neg c2]
        exact ⟨s, rfl, old (by omega), fun _ _ _ => rfl⟩
theorem BLc_of {s' : iS} (h : BLc L s) (h1 : s' 2 13 = s 2 13) (h2 : s' 2 14 = s 2 14) : BLc L s' := by
  unfold BLc at h ⊢
  rw [h1, h2]
  exact h
theorem kMn_mem {L L' : List Nat} (h : ∀ k, k ∈ L ↔ k ∈ L') : kMn L = kMn L' := by
  have le : ∀ (L : List Nat) (k : Nat), k ∈ L → kMn L ≤ k := by
    intro L
    induction L with
    | nil => intro k hk; simp at hk
    | cons y L ih =>
      intro k hk
      unfold kMn at ih ⊢
      rw [List.foldr_cons]
      rcases List.mem_cons.mp hk with q | q
      · omega
      · have := ih k q
        omega
  have gt : ∀ (L : List Nat) (z : Nat), (∀ k ∈ L, z ≤ k) → z ≤ 100000 → z ≤ kMn L := by
    intro L
    induction L with
    | nil => intro z _ hz; exact hz
    | cons y L ih =>
      intro z hz h2
      have := ih z (fun k hk => hz k (List.mem_cons_of_mem _ hk)) h2
      have := hz y List.mem_cons_self
      unfold kMn at *
      rw [List.foldr_cons]
      omega
  have a := gt L' (kMn L) (fun k hk => le L k ((h k).mpr hk)) (kMn_le L)
  have b := gt L (kMn L') (fun k hk => le L' k ((h k).mp hk)) (kMn_le L')
  omega
end R2a
