/-! the class's tables of names: one more -/
section NMa
variable {F : Nat → Int} {n N : Nat} {P : Nat → Nat} {s0 t0 s : iS} {j c a b' M : Nat} {tab : List (List Int)}
/-- a name is put behind the others -/
noncomputable def nmad (s : iS) (c a b' k : Nat) (w : List Int) : iS := up (up (up s a k (wH w)) b' k (wL w)) c 2 ((k + 1 : Nat) : Int)
theorem nmad_ne {k c' k' : Nat} {w : List Int} (h1 : ¬ (c' = c ∧ k' = 2)) (h2 : ¬ (c' = a ∧ k' = k)) (h3 : ¬ (c' = b' ∧ k' = k)) : nmad s c a b' k w c' k' = s c' k' := by
  unfold nmad
  rw [up_ne (by omega), up_ne (by omega), up_ne (by omega)]
theorem cAd (h : TKR 0 F n N P s0 t0) (hs : SC s0 s) (hN : j < N) (hk : s0 9 j = 3) (ht : TB c a b' tab s) (hM : M < 1000000) (hm : tab.length < M) (hca : c ≠ a ∧ c ≠ b' ∧ a ≠ b') : tok_addTo c a b' M (j : Int) s = some (0, nmad s c a b' tab.length (nmT F P t0 j)) ∧ TB c a b' (tab ++ [nmT F P t0 j]) (nmad s c a b' tab.length (nmT F P t0 j)) := by
  have hN2 := N1001 h
  have h8 := h.2.2.2.1
  obtain ⟨w1, w2, w3, _⟩ := tkN h hN hk
  have e8 : s 2 8 = (N : Int) := by rw [hs.2.2.2.2.2.2.1]; exact h8
  have e12 : s 12 j = wH (nmT F P t0 j) := by rw [hs.2.2.2.2.1]; exact w2
  have e13 : s 13 j = wL (nmT F P t0 j) := by rw [hs.2.2.2.2.2.1]; exact w3
  have t1 := ht.1
  refine ⟨?_, ?_, fun i hi => ?_⟩
  · unfold tok_addTo nam_add nmad
    have x1 : up s a tab.length (wH (nmT F P t0 j)) c 2 = (tab.length : Int) := by rw [up_ne (by omega)]; exact t1
    have x2 : up (up s a tab.length (wH (nmT F P t0 j))) b' tab.length (wL (nmT F P t0 j)) c 2 = (tab.length : Int) := by rw [up_ne (by omega)]; exact x1
    rw [gr (by omega), if_neg (by omega), e8, gr (by omega), if_neg (by omega), gd_pos (by omega), Int.toNat_natCast, e12, e13, t1, gr (by omega), gr (by omega), if_neg (by omega), gd_pos (by omega), Int.toNat_natCast, lt_eq, x1, gd_pos (by omega), Int.toNat_natCast, lt_eq, lt_eq, x2, bq]
    rfl
  · unfold nmad
    rw [up_same, List.length_append]
    rfl
  · rw [List.length_append, List.length_singleton] at hi
    by_cases k : i < tab.length
    · rw [gd_app k, nmad_ne (by omega) (by omega) (by omega), nmad_ne (by omega) (by omega) (by omega)]
      exact ht.2 i k
    · have e : i = tab.length := by omega
      rw [e, gd_end]
      unfold nmad
      exact ⟨by rw [up_ne (by omega), up_ne (by omega), up_same], by rw [up_ne (by omega), up_same]⟩
end NMa
