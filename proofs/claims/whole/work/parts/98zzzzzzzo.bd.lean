/-! chips: the class puts the Nands in order: all of them -/
section CKi
variable {n : Nat} {f : Nat → Option Nat} {nb : Nat → Prop} {O : List Nat} {s s' s0 : iS} {i y : Nat}
theorem gd_appN {O E : List Nat} {j : Nat} (hj : j < O.length) : (O ++ E).getD j 0 = O.getD j 0 := by
  rw [List.getD_eq_getElem?_getD, List.getElem?_append_left hj, List.getD_eq_getElem?_getD]
theorem rel_l (hn : n ≤ 1500) (hf : ∀ u y, f u = some y → u < 2 * n ∧ nb (u / 2) ∧ y < n) : ∀ (l : List Nat) (v3 : Int) (ru : Nat → Bool) (O : List Nat) (s : iS) (h : Int), KIn n f nb ru O i s → i < O.length → O.getD i 0 = y → chn s h l → l.Nodup → (∀ u ∈ l, f u = some y ∧ ru u = false) → 0 ≤ v3 → v3 + l.length ≤ 3000 → ∃ s' ru' E, lp (L := Int × Int × iS) (E := iS) (fun l => brd_releaseUsers_9b (y : Int) (l.1) (l.2.1) (l.2.2)) (h, v3, s) = some s' ∧ KIn n f nb ru' (O ++ E) i s' ∧ (∀ u, ru' u = true ↔ ru u = true ∨ u ∈ l) ∧ ∀ c k, ¬ (c = 108 ∧ k = 16) → ¬ (116 ≤ c ∧ c ≤ 118) → s' c k = s c k
  | [], v3, ru, O, s, h, hK, hi, hy, hc, hd, hl, h0, h1 => by
    have e : h = -1 := hc
    subst e
    refine ⟨s, ru, [], ?_, by rw [List.append_nil]; exact hK, fun u => ?_, fun _ _ _ _ => rfl⟩
    · refine lp_end (f := fun l : Int × Int × iS => brd_releaseUsers_9b (y : Int) (l.1) (l.2.1) (l.2.2)) ?_
      show brd_releaseUsers_9b (y : Int) (-1) v3 s = _
      have h1' : v3 + ((0 : Nat) : Int) ≤ 3000 := h1
      unfold brd_releaseUsers_9b
      rw [gr (by omega), gr (by omega)]
      by_cases c : 3000 ≤ v3
      · rw [if_pos c]
      · rw [if_neg c, if_pos rfl]
    · constructor
      · exact Or.inl
      · rintro (q | q)
        · exact q
        · cases q
  | u :: l, v3, ru, O, s, h, hK, hi, hy, hc, hd, hl, h0, h1 => by
    obtain ⟨e, hc⟩ := hc
    subst e
    rw [List.length_cons] at h1
    obtain ⟨d1, d2⟩ := List.nodup_cons.mp hd
    obtain ⟨f1, f2⟩ := hl u List.mem_cons_self
    obtain ⟨s1, E1, a1, a2, a3⟩ := rel_1 hn hf hK hi (u := u) (by rw [hy]; exact f1) f2 (v3 := v3) ⟨h0, by omega⟩
    rw [hy] at a1
    obtain ⟨s', ru', E, b1, b2, b3, b4⟩ := rel_l hn hf l (v3 + 1) _ (O ++ E1) s1 (s 120 u) a2 (by rw [List.length_append]; omega) (by rw [gd_appN hi]; exact hy) (chn_of hc (fun x _ => a3 120 x (by omega) (by omega))) d2 (fun x hx => ⟨(hl x (List.mem_cons_of_mem _ hx)).1, by
      have ne : x ≠ u := fun e => d1 (e ▸ hx)
      show (if x = u then true else ru x) = false
      rw [if_neg ne]
      exact (hl x (List.mem_cons_of_mem _ hx)).2⟩) (by omega) (by omega)
    refine ⟨s', ru', E1 ++ E, ?_, by rw [← List.append_assoc]; exact b2, fun x => ?_, fun c k c1 c2 => by rw [b4 c k c1 c2, a3 c k c1 c2]⟩
    · rw [lp_next (f := fun l : Int × Int × iS => brd_releaseUsers_9b (y : Int) (l.1) (l.2.1) (l.2.2)) (l := ((u : Int), v3, s)) (l' := (s 120 u, v3 + 1, s1)) a1]
      exact b1
    · rw [b3 x, List.mem_cons]
      show (if x = u then true else ru x) = true ∨ _ ↔ _
      by_cases e : x = u
      · rw [if_pos e]
        exact ⟨fun _ => Or.inr (Or.inl e), fun _ => Or.inl rfl⟩
      · rw [if_neg e]
        constructor
        · rintro (q | q)
          · exact Or.inl q
          · exact Or.inr (Or.inr q)
        · rintro (q | q | q)
          · exact Or.inl q
          · exact absurd q e
          · exact Or.inr q
theorem KIn_up {ru : Nat → Bool} (h : KIn n f nb ru O i s) : KIn n f nb ru O (i + 1) s := by
  obtain ⟨k0, k5, k6, k7, k8⟩ := h
  refine ⟨k0, fun z z1 z2 => ?_, fun u u1 u2 => ?_, k7, k8⟩
  · obtain ⟨a1, a2, a3, a4, a5⟩ := k5 z z1 z2
    exact ⟨a1, a2, a3, a4, by omega⟩
  · obtain ⟨j, j1, j2⟩ := k6 u u1 u2
    exact ⟨j, by omega, j2⟩
theorem KIn_len {ru : Nat → Bool} (h : KIn n f nb ru O i s) : O.length ≤ n := by
  have := nodup_len O (List.range n) h.1.1 (fun x hx => List.mem_range.mpr (h.1.2.1 x hx).1)
  rw [List.length_range] at this
  exact this
theorem rel_o (hn : n ≤ 1500) (hf : ∀ u y, f u = some y → u < 2 * n ∧ nb (u / 2) ∧ y < n) (hc : ∀ y, y < n → chn s0 (s0 119 y) (usL f y (2 * n))) {v1 : Int} : ∀ (k i : Nat) (ru : Nat → Bool) (O : List Nat) (s : iS), i + k = n → i ≤ O.length → KIn n f nb ru O i s → (∀ u, u < 2 * n → (ru u = true ↔ ∃ j, j < i ∧ j < O.length ∧ f u = some (O.getD j 0))) → (∀ c k, (c = 119 ∨ c = 120) → s c k = s0 c k) → ∃ s' ru' O', lp (L := Int × iS) (E := iS) (fun l => brd_sortNands_100b v1 (l.1) (l.2)) ((i : Int), s) = some s' ∧ KIn n f nb ru' O' n s' ∧ (∀ u, u < 2 * n → (ru' u = true ↔ ∃ j, j < O'.length ∧ f u = some (O'.getD j 0))) ∧ ∀ c k, ¬ (c = 108 ∧ k = 16) → ¬ (116 ≤ c ∧ c ≤ 118) → s' c k = s c k
  | k, i, ru, O, s, hk, hi, hK, hr, hs => by
    have lO := KIn_len hK
    have e16 : s 108 16 = (O.length : Int) := hK.1.2.2.1
    by_cases c : i < O.length
    · obtain ⟨y, hy⟩ : ∃ y, y = O.getD i 0 := ⟨_, rfl⟩
      obtain ⟨y1, y2⟩ := hK.1.2.1 y (hy ▸ gd_memN c)
      have e116 : s 116 i = (y : Int) := by rw [hy]; exact hK.1.2.2.2 i c
      have hch : chn s (s 119 y) (usL f y (2 * n)) := by
        rw [hs 119 y (Or.inl rfl)]
        exact chn_of (hc y y1) (fun u _ => hs 120 u (Or.inr rfl))
      obtain ⟨u1, u2⟩ := usL_n (f := f) (y := y) (2 * n)
      obtain ⟨s1, ru1, E, a1, a2, a3, a4⟩ := rel_l hn hf (usL f y (2 * n)) 0 ru O s (s 119 y) hK c hy.symm hch u1 (fun u hu => by
        obtain ⟨m1, m2⟩ := (usL_m (2 * n)).mp hu
        refine ⟨m2, ?_⟩
        cases q : ru u with
        | false => rfl
        | true =>
          obtain ⟨j, j1, j2, j3⟩ := (hr u m1).mp q
          rw [m2] at j3
          injection j3 with j3
          have := nd_inj hK.1.1 j2 c (by rw [← j3]; exact hy)
          omega) (by omega) (by omega)
      have hk1 : k ≠ 0 := by omega
      obtain ⟨k', rfl⟩ : ∃ k', k = k' + 1 := ⟨k - 1, by omega⟩
      obtain ⟨s', ru', O', b1, b2, b3, b4⟩ := rel_o hn hf hc (v1 := v1) k' (i + 1) ru1 (O ++ E) s1 (by omega) (by rw [List.length_append]; omega) (KIn_up a2) (fun u hu => by
        rw [a3 u, hr u hu, usL_m]
        constructor
        · rintro (⟨j, j1, j2, j3⟩ | ⟨-, q⟩)
          · exact ⟨j, by omega, by rw [List.length_append]; omega, by rw [gd_appN j2]; exact j3⟩
          · exact ⟨i, by omega, by rw [List.length_append]; omega, by rw [gd_appN c, ← hy]; exact q⟩
        · rintro ⟨j, j1, j2, j3⟩
          rw [gd_appN (show j < O.length by omega)] at j3
          by_cases e : j = i
          · rw [e, ← hy] at j3
            exact Or.inr ⟨hu, j3⟩
          · exact Or.inl ⟨j, by omega, by omega, j3⟩) (fun c k q => by rw [a4 c k (by omega) (by omega)]; exact hs c k q)
      refine ⟨s', ru', O', ?_, b2, b3, fun c k c1 c2 => by rw [b4 c k c1 c2, a4 c k c1 c2]⟩
      rw [lp_next (f := fun l : Int × iS => brd_sortNands_100b v1 (l.1) (l.2)) (l := ((i : Int), s)) (l' := (((i + 1 : Nat) : Int), s1)) (by
        show brd_sortNands_100b v1 (i : Int) s = _
        unfold brd_sortNands_100b
        rw [gr (by omega), if_neg (by omega), gr (by omega), if_neg (by omega), gd_pos (by omega), Int.toNat_natCast, e116]
        unfold brd_releaseUsers
        rw [gd_pos (by omega), Int.toNat_natCast]
        unfold brd_releaseUsers_9
        rw [a1]
        rfl)]
      exact b1
    · have ei : i = O.length := by omega
      have hK' : ∀ m, KIn n f nb ru O (i + m) s := by
        intro m
        induction m with
        | zero => exact hK
        | succ m ih => exact KIn_up ih
      refine ⟨s, ru, O, ?_, by have := hK' k; rw [hk] at this; exact this, fun u hu => by rw [hr u hu, ei]; exact ⟨fun ⟨j, j1, j2, j3⟩ => ⟨j, j2, j3⟩, fun ⟨j, j2, j3⟩ => ⟨j, j2, j2, j3⟩⟩, fun _ _ _ _ => rfl⟩
      refine lp_end (f := fun l : Int × iS => brd_sortNands_100b v1 (l.1) (l.2)) ?_
      show brd_sortNands_100b v1 (i : Int) s = _
      unfold brd_sortNands_100b
      rw [gr (by omega), gr (by omega)]
      by_cases c2 : 1500 ≤ (i : Int)
      · rw [if_pos c2]
      · rw [if_neg c2, if_pos (by omega)]
termination_by k => k
/-- a use is noted -/
theorem c_isn {v : Int} (h14 : s 108 14 = (n : Int)) (hn : n ≤ 1500) (hA : ∀ x, x < n → -1 ≤ s 114 x ∧ s 114 x < 1694) (hv : -1000 ≤ v ∧ v ≤ 2000) : brd_isNand v s = some (if 0 ≤ v ∧ v < (n : Int) ∧ s 114 v.toNat ≠ -1 then 1 else 0, s) := by
  unfold brd_isNand
  rw [gr (by omega), h14, gr (by omega)]
  by_cases c1 : v < 0
  · rw [if_pos c1, if_neg (fun q => by omega)]
  · rw [if_neg c1]
    by_cases c2 : (n : Int) ≤ v
    · rw [if_pos c2, if_neg (fun q => by omega)]
    · have := hA v.toNat (by omega)
      rw [if_neg c2, gd_pos (by omega), gr (by omega)]
      by_cases c3 : s 114 v.toNat = -1
      · rw [if_pos c3, if_neg (fun q => q.2.2 c3)]
      · rw [if_neg c3, if_pos ⟨by omega, by omega, c3⟩]
theorem note_1 (h14 : s 108 14 = (n : Int)) (hn : n ≤ 1500) (hA : ∀ x, x < n → -1 ≤ s 114 x ∧ s 114 x < 1694) {u : Nat} {z : Int} (hu : u < 3000) (hz : -1 ≤ z ∧ z < 1694) (hf : f u = cgv n s z) (hc : ∀ y, y < n → chn s (s 119 y) (usL f y u)) : ∃ s', brd_noteUse (u : Int) z s = some (aw1 f (fun _ => false) u, s') ∧ (∀ y, y < n → chn s' (s' 119 y) (usL f y (u + 1))) ∧ ∀ c k, c ≠ 119 → c ≠ 120 → s' c k = s c k := by
  have eL : ∀ y, usL f y (u + 1) = if f u = some y then u :: usL f y u else usL f y u := fun _ => rfl
  unfold brd_noteUse
  rw [c_isn h14 hn hA (by omega), bq, gr (by split <;> omega)]
  unfold aw1
  unfold cgv at hf
  by_cases c : 194 ≤ z ∧ z < 194 + (n : Int) ∧ s 114 (z - 194).toNat ≠ -1
  · rw [if_pos c] at hf
    obtain ⟨y, hy⟩ : ∃ y, y = (z - 194).toNat := ⟨_, rfl⟩
    rw [← hy] at hf
    rw [if_pos (show 0 ≤ z - 194 ∧ z - 194 < (n : Int) ∧ s 114 (z - 194).toNat ≠ -1 from ⟨by omega, by omega, c.2.2⟩), if_neg (by omega), gd_pos (by omega), gd_pos (by omega), hf, if_pos ⟨rfl, rfl⟩, Int.toNat_natCast, ← hy]
    refine ⟨up (up s 120 u (s 119 y)) 119 y (u : Int), rfl, fun y' y1 => ?_, fun c k c1 c2 => by rw [up_ne (by omega), up_ne (by omega)]⟩
    rw [eL y', hf]
    have keep : chn (up (up s 120 u (s 119 y)) 119 y (u : Int)) (s 119 y') (usL f y' u) := chn_of (hc y' y1) (fun x hx => by
      have := ((usL_m u).mp hx).1
      rw [up_ne (by omega), up_ne (by omega)])
    by_cases e : y' = y
    · rw [if_pos (by rw [e]), e, up_same]
      refine ⟨rfl, ?_⟩
      rw [up_ne (by omega), up_same]
      rw [e] at keep
      exact keep
    · rw [if_neg (fun q => by injection q with q; exact e q.symm), up_ne (by omega), up_ne (by omega)]
      exact keep
  · rw [if_neg c] at hf
    rw [if_neg (show ¬ (0 ≤ z - 194 ∧ z - 194 < (n : Int) ∧ s 114 (z - 194).toNat ≠ -1) from fun q => c ⟨by omega, by omega, q.2.2⟩), if_pos rfl, hf, if_neg (fun q => by cases q.1)]
    exact ⟨s, rfl, fun y' y1 => by rw [eL y', hf, if_neg (fun q => by cases q)]; exact hc y' y1, fun _ _ _ _ => rfl⟩
end CKi
