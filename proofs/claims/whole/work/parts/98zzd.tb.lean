/-! the first reading: all that the text's reading asks of the class -/
/-- what stands also behind a fault -/
def Z2 (s : iS) : Prop := Z1 s ∧ 8 ≤ s 24 2 ∧ 40 ≤ s 27 2
section TXi
variable {F : Nat → Int} {n N : Nat} {P : Nat → Nat} {s0 t0 s s' : iS} {g g' j : Nat} {K : List Nat} {U : List urec} {W : List wrec} {v r y : Int}
/-- a body begins, first reading -/
theorem t1_begin (hX : X1 F P s0 t0 N g K U W s) (h7 : s 14 7 = 0) (hv : 0 ≤ v ∧ v < 1000) : ∃ s1, trl_beginBody v s = some (0, s1) ∧ (∀ c k, ¬ (c = 14 ∧ (k = 9 ∨ k = 12)) → c ≠ 20 → s1 c k = s c k) := by
  have hb := hX.1
  obtain ⟨a1, ⟨a2, a2'⟩, a3, a4, a5, a6, a7, a8, a9, a10⟩ := hb
  have b2 : 0 ≤ s 24 2 ∧ s 24 2 ≤ 20 := a1.2.1
  obtain ⟨t1, t2, t3⟩ := a2
  have B : ∃ s1, prg_beginSub (s 23 12) s = some (0, s1) ∧ (∀ c k, ¬ (c = 14 ∧ (k = 9 ∨ k = 12)) → c ≠ 20 → s1 c k = s c k) := by
    unfold prg_beginSub
    rw [lt_eq, lt_eq, gr (by omega), if_neg (by omega), if_neg (by omega), gd_pos (by omega), lt_eq]
    exact ⟨_, rfl, fun c k z1 z2 => by rw [up_ne (by omega), up_ne (by omega), up_ne (by omega)]⟩
  obtain ⟨s1, e1, f1⟩ := B
  have h7' : s1 14 7 = 0 := by rw [f1 14 7 (by omega) (by omega)]; exact h7
  have M : ∃ r, scp_numberOf (s1 23 11) (s1 23 12) s1 = some (r, s1) := by
    unfold scp_numberOf scp_firstSubOf
    rw [f1 23 11 (by omega) (by omega), f1 24 2 (by omega) (by omega), gr (by omega), if_neg (by omega), gr (by omega)]
    by_cases c : s 24 2 < s 23 11
    · rw [if_pos c, bq]
      exact ⟨_, rfl⟩
    · rw [if_neg c, gd_pos (by omega), bq]
      exact ⟨_, rfl⟩
  obtain ⟨r, e2⟩ := M
  refine ⟨s1, ?_, f1⟩
  unfold trl_beginBody
  rw [e1, bq, e2, bq, pad0 h7', bq, gr (by omega)]
  by_cases c : v = 259
  · rw [if_pos c, pad0 h7', bq, pad0 h7', bq]
  · rw [if_neg c]
    by_cases c2 : v = 257
    · rw [if_pos c2]
      have X : ∃ r, mth_max 1 (s1 40 4) s1 = some (r, s1) := by
        unfold mth_max
        rw [f1 40 4 (by omega) (by omega), gr (by omega), gr (by omega)]
        split <;> exact ⟨_, rfl⟩
      obtain ⟨r', e3⟩ := X
      rw [e3, bq, pad0 h7', bq, pad0 h7', bq, pai0 h7', bq, pad0 h7', bq]
    · rw [if_neg c2]
theorem t1_H (h : TKR 0 F n N P s0 t0) (hF : tkC F n s0) : RHT (T1 F P s0 t0 N) TV1 Z2 0 s0 N P := by
  have hN2 := N1001 h
  have ZZ : ∀ {g K U W s}, X1 F P s0 t0 N g K U W s → Z2 s := by
    intro g K U W s q
    have z1 := q.2.1.1
    have z2 := q.2.2.1.1
    rw [nmK_l] at z1
    rw [nmU_l] at z2
    exact ⟨q.1.2.1, by omega, by omega⟩
  have UP : ∀ {g K U W Y A s c k x}, T1 F P s0 t0 N g K U W Y A s → (c = 2 ∧ k = 12 ∨ c = 22 ∧ (k = 5 ∨ k = 6 ∨ k = 7)) → T1 F P s0 t0 N g K U W Y A (up s c k x) := by
    intro g K U W Y A s c k x ⟨q1, q2, q3, q4⟩ hc
    exact ⟨X1_up q1 (by omega), by rw [up_ne (by omega)]; exact q2, by rw [up_ne (by omega)]; exact q3, by rw [up_ne (by omega)]; exact q4⟩
  refine ⟨?_, ?_, ?_, ?_, ?_, ?_, ?_, ?_, ?_, ?_, ?_⟩
  · exact fun g K U W Y A s x hs => ⟨UP hs (by omega), UP hs (by omega)⟩
  · exact fun g K U W Y A s hs => ⟨hs.2.1, hs.1.1.1, fun _ => ⟨hs.2.2.2, hs.2.2.1⟩, ZZ hs.1⟩
  · exact fun s hs => hs.1.1
  · exact fun s s' hs hz => ⟨Z1_ZK hs.1 hz, by rw [hz 24 2 (by omega) (by omega) (by omega)]; exact hs.2.1, by rw [hz 27 2 (by omega) (by omega) (by omega)]; exact hs.2.2⟩
  · intro g K U W Y A s j hs hsc hj hk hp
    obtain ⟨e1, e2, e3⟩ := fcK_ok h hsc hj hk hs.1.2.1 hs.1.2.2.2.1 hs.1.1.2.2.1.1
    have hl := hs.1.1.2.2.1.1
    refine ⟨fcK F P t0 K j, s, fun G => ?_, ⟨e2, by omega⟩, hs, ⟨hsc, rfl, rfl, rfl⟩⟩
    unfold trl_findClass
    rw [e1, bq, bq, hs.2.1, gr (by omega), if_pos rfl]
  · exact fun j hj => ⟨by omega, by omega⟩
  · intro g K U W Y A s j v y r hs hsc hj hk hp htv hv
    have hb := hs.1.1
    have hK : K ≠ [] := hb.2.2.2.2.2.2.2.2.1 (by omega)
    refine ⟨?_, fun hn => ?_⟩
    · unfold nwW
      rcases hv with ⟨q, c | c⟩ | ⟨q, c⟩ | ⟨q, c⟩
      · rw [if_neg (by omega), if_neg (by omega), if_pos c, c]; exact hb.2.2.2.2.2.1
      · rw [if_neg (by omega), if_neg (by omega), if_neg (by omega), c]; exact (hb.2.2.2.2.2.2.1 hK).1
      · rw [if_pos c, c]; exact (hb.2.2.2.2.2.2.2.1 (Or.inl q)).2.1
      · rw [if_neg (by omega), if_pos c, c]; exact (hb.2.2.2.2.2.2.2.1 (Or.inr q)).2.2
    · obtain ⟨s1, e1, e2, e3⟩ := t1_decl (r := r) (y := y) h hsc hj hk hp hs.1 hv hn
      refine ⟨s1, ?_, ⟨e2, by rw [e3 22 4 (by omega)]; exact hs.2.1, by rw [e3 14 7 (by omega)]; exact hs.2.2.1, by rw [e3 2 13 (by omega)]; exact hs.2.2.2⟩, MX_of hsc e3⟩
      have E : ∃ x, scp_firstRival v s = some (x, s) := by
        unfold scp_firstRival
        rw [gr (by omega)]
        split
        · exact ⟨_, rfl⟩
        · split <;> exact ⟨_, rfl⟩
      obtain ⟨x, e⟩ := E
      rw [e, bq, hs.2.1, gr (by omega), if_pos rfl, e1]
  · intro g K U W Y A s j hs hsc hj hk hp hg hK
    refine ⟨fun _ => by rw [hs.1.2.1.1, nmK_l]; omega, fun hK2 => ?_⟩
    obtain ⟨s1, e1, e2, e3⟩ := t1_cls h hsc hj hk hp hs.1 hg hs.2.1 hK2
    exact ⟨s1, e1, ⟨e2, by rw [e3 22 4 (by omega)]; exact hs.2.1, by rw [e3 14 7 (by omega)]; exact hs.2.2.1, by rw [e3 2 13 (by omega)]; exact hs.2.2.2⟩, MX_of hsc e3⟩
  · intro g K U W Y A s j so y hs hsc hj hk hp hg hK hso hU
    refine ⟨fun _ => by rw [hs.1.2.2.1.1, nmU_l]; omega, fun hU2 => ?_⟩
    obtain ⟨s1, e1, e2, e3⟩ := t1_sub (y := y) h hsc hj hk hp hs.1 hg hs.2.1 hK hso hU2
    exact ⟨s1, e1, ⟨e2, by rw [e3 22 4 (by omega)]; exact hs.2.1, by rw [e3 14 7 (by omega)]; exact hs.2.2.1, by rw [e3 2 13 (by omega)]; exact hs.2.2.2⟩, MX_of hsc e3⟩
  · intro K U W Y A s hs hsc
    obtain ⟨s1, e1, e2, e3⟩ := t1_tell hs.1
    exact ⟨s1, e1, ⟨e2, by rw [e3 22 4 (by omega)]; exact hs.2.1, by rw [e3 14 7 (by omega)]; exact hs.2.2.1, by rw [e3 2 13 (by omega)]; exact hs.2.2.2⟩, MX_of hsc e3⟩
  · intro K U W Y A s so hs hsc hlast
    have hK : K ≠ [] := hs.1.1.2.2.2.2.2.2.2.2.1 (by omega)
    have hso : 0 ≤ 256 + so ∧ 256 + so < 1000 := by
      obtain ⟨x, y, e⟩ := hlast
      have hm : (x, so, y) ∈ U := List.mem_of_getLast? e
      have := (hs.1.2.2.2.2.1 _ hm).2.2.2.2
      simp only at this
      omega
    have hs7 : T1 F P s0 t0 N 2 K U W Y A (up s 22 7 0) := UP hs (by omega)
    obtain ⟨s1, e1, f1⟩ := t1_begin (v := 256 + so) hs7.1 hs7.2.2.1 hso
    have f2 : ∀ c k, ¬ (c = 14 ∧ (k = 9 ∨ k = 12)) → c ≠ 20 → ¬ (c = 22 ∧ k = 7) → s1 c k = s c k := fun c k z1 z2 z3 => by rw [f1 c k z1 z2, up_ne z3]
    have X : X1 F P s0 t0 N 2 K U W s1 := X1_of hs.1 (fun c k z1 z2 => f2 c k (by omega) (by omega) (by omega))
    refine ⟨fun l s => RF1 (vNs F P t0 (wlG 2 K U W)) (wlC K W).length l s ∧ X1 F P s0 t0 N 2 K U W s, _, s1, RHE_and (rf1_E h hF) (fun s s' q m => X1_MD q m) (fun s x q => ⟨X1_up q (by omega), X1_up q (by omega), X1_up q (by omega), X1_up q (by omega)⟩), RHS_and (rf1_S h) (fun s s' q m => X1_MD q m) (fun s x q => X1_up q (by omega)), e1, ⟨⟨?_, ?_, ?_, X.1.1, (X.1.2.2.2.2.2.2.1 hK).2⟩, X⟩, ⟨?_, ?_, ?_, ?_⟩, ?_, ZZ X, ?_⟩
    · rw [f2 22 4 (by omega) (by omega) (by omega)]; exact hs.2.1
    · rw [f2 14 7 (by omega) (by omega) (by omega)]; exact hs.2.2.1
    · rw [f2 2 13 (by omega) (by omega) (by omega)]; exact hs.2.2.2
    · obtain ⟨c1, c2, c3, c4, c5, c6, c7, c8, c9, c10⟩ := hsc
      exact ⟨(funext fun k => f2 1 k (by omega) (by omega) (by omega)).trans c1, (funext fun k => f2 9 k (by omega) (by omega) (by omega)).trans c2, (funext fun k => f2 10 k (by omega) (by omega) (by omega)).trans c3, (funext fun k => f2 11 k (by omega) (by omega) (by omega)).trans c4, (funext fun k => f2 12 k (by omega) (by omega) (by omega)).trans c5, (funext fun k => f2 13 k (by omega) (by omega) (by omega)).trans c6, (f2 2 8 (by omega) (by omega) (by omega)).trans c7, (f2 2 9 (by omega) (by omega) (by omega)).trans c8, (funext fun k => f2 42 k (by omega) (by omega) (by omega)).trans c9, (funext fun k => f2 43 k (by omega) (by omega) (by omega)).trans c10⟩
    · exact f2 2 12 (by omega) (by omega) (by omega)
    · exact f2 22 5 (by omega) (by omega) (by omega)
    · exact f2 22 6 (by omega) (by omega) (by omega)
    · rw [f1 22 7 (by omega) (by omega), up_same]
    · intro l s2 j ⟨hr, hx⟩ hsc2
      refine ⟨s2, s2, s2, pad0 hr.2.1, pad0 hr.2.1, ?_, ⟨X1_23 hx, hr.1, hr.2.1, hr.2.2.1⟩, ⟨hsc2, rfl, rfl, rfl⟩⟩
      unfold prg_endSub
      rw [hr.2.1, gr (by omega), if_pos rfl]
end TXi
