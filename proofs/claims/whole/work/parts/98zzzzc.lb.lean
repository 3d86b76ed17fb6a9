/-! the system's subs: making a block -/
section LBc
variable {s s' t t' : iS} {n a x i : Nat} {B D : List (Nat × Nat)} {v : Int}
theorem gI1 {α : Type} {d e : α} {B : List α} {i j : Nat} (hi : i ≤ B.length) : (B.take i ++ e :: B.drop i).getD j d = if j < i then B.getD j d else if j = i then e else B.getD (j - 1) d := by
  have lt : (B.take i).length = i := by rw [List.length_take]; omega
  by_cases c : j < i
  · rw [if_pos c, gdL (by omega), List.getD_eq_getElem?_getD, List.getD_eq_getElem?_getD, List.getElem?_take, if_pos c]
  · rw [if_neg c, gdR (by omega), lt]
    by_cases c2 : j = i
    · rw [if_pos c2, c2, Nat.sub_self]
      rfl
    · obtain ⟨k, rfl⟩ : ∃ k, j = i + k + 1 := ⟨j - i - 1, by omega⟩
      rw [if_neg c2, show i + k + 1 - i = k + 1 by omega, List.getD_cons_succ, List.getD_eq_getElem?_getD, List.getD_eq_getElem?_getD, List.getElem?_drop, show i + k + 1 - 1 = i + k by omega]
theorem sml_ins {e : Nat × Nat} (hi : i ≤ B.length) : sml (B.take i ++ e :: B.drop i) = sml B + e.2 := by
  unfold sml
  have h : (B.map Prod.snd).sum = ((B.take i).map Prod.snd).sum + ((B.drop i).map Prod.snd).sum := by
    rw [← List.sum_append, ← List.map_append, List.take_append_drop]
  rw [h, List.map_append, List.sum_append, List.map_cons, List.sum_cons]
  omega
theorem sml_bd : ∀ (B : List (Nat × Nat)) (a : Nat), srt a B → a + sml B ≤ 14336
  | [], a, h => h
  | b :: r, a, h => by
    have := sml_bd r _ h.2.2
    have := h.1
    unfold sml at *
    rw [List.map_cons, List.sum_cons]
    omega
/-- both put the block down -/
theorem put_bk (h : LB s t) (hg : gO s t) (hp : B.Perm D) (h3 : s 44 3 = (B.length : Int)) (h81 : t 121 81 = (D.length : Int)) (h100 : B.length < 100) (hB : ∀ i, i < B.length → s 46 i = ((B.getD i (0, 0)).1 : Int) ∧ s 47 i = ((B.getD i (0, 0)).1 : Int) + ((B.getD i (0, 0)).2 : Int)) (hD : ∀ i, i < D.length → t 176 i = ((D.getD i (0, 0)).1 : Int) ∧ t 177 i = ((D.getD i (0, 0)).2 : Int)) (hs : srt 2048 B) (h4 : s 44 4 = (sml B : Int)) (hn : 1 ≤ n ∧ n ≤ 32767) (hx : ffA n 2048 B + n ≤ 14336) : ∃ s' t', mem_allocate_99 (n : Int) (ffA n 2048 B : Int) ((ffI n 2048 B : Nat) : Int) s = some ((ffA n 2048 B : Int), s') ∧ m_make_48 (n : Int) (ffA n 2048 B : Int) t = some ((ffA n 2048 B : Int), t') ∧ LB s' t' ∧ gO s' t' := by
  have hi := ffI_le (n := n) B 2048
  have hlD : B.length = D.length := hp.length_eq
  have hsb := sml_bd B _ hs
  have hso := srt_ins B 2048 hs hn.1 hx
  generalize ffA n 2048 B = x at *
  generalize ffI n 2048 B = i at *
  obtain ⟨s1, e1, e2, e3⟩ := ib11 (i := i) (m := B.length) (v2 := (x : Int)) (v3 := (n : Int)) (by omega) (B.length - i) s (by omega)
  have c3 : s1 44 3 = (B.length : Int) := (e2 44 3 (by omega) (by omega)).trans h3
  have c4 : s1 44 4 = (sml B : Int) := (e2 44 4 (by omega) (by omega)).trans h4
  refine ⟨up (up (up (up s1 46 i (x : Int)) 47 i ((x : Int) + (n : Int))) 44 3 ((B.length : Int) + 1)) 44 4 ((sml B : Int) + (n : Int)), up (up (up t 176 D.length (x : Int)) 177 D.length (n : Int)) 121 81 ((D.length : Int) + 1), ?_, ?_, ?_, ?_⟩
  · unfold mem_allocate_99 mem_insertBlock
    rw [h3, min_ok ⟨by omega, by omega⟩ (by decide), bq, if_neg (by omega), e1]
    unfold mem_insertBlock_55
    have q3 : up (up s1 46 i (x : Int)) 47 i ((x : Int) + (n : Int)) 44 3 = (B.length : Int) := by rw [up_ne (by omega), up_ne (by omega)]; exact c3
    have q4 : up (up (up s1 46 i (x : Int)) 47 i ((x : Int) + (n : Int))) 44 3 ((B.length : Int) + 1) 44 4 = (sml B : Int) := by rw [up_ne (by omega), up_ne (by omega), up_ne (by omega)]; exact c4
    rw [gd_pos (by omega), Int.toNat_natCast, lt_eq, lt_eq, lt_eq, q3, lt_eq, q4, bq]
  · unfold m_make_48
    have q1 : up t 176 D.length (x : Int) 121 81 = (D.length : Int) := by rw [up_ne (by omega)]; exact h81
    have q2 : up (up t 176 D.length (x : Int)) 177 D.length (n : Int) 121 81 = (D.length : Int) := by rw [up_ne (by omega)]; exact q1
    rw [hg.2, gr (by omega), if_pos rfl, h81, gd_pos (by omega), Int.toNat_natCast, lt_eq, q1, gd_pos (by omega), Int.toNat_natCast, lt_eq, q2, lt_eq]
  · have fs : ∀ c k, c ≠ 46 → c ≠ 47 → ¬ (c = 44 ∧ (k = 3 ∨ k = 4)) → up (up (up (up s1 46 i (x : Int)) 47 i ((x : Int) + (n : Int))) 44 3 ((B.length : Int) + 1)) 44 4 ((sml B : Int) + (n : Int)) c k = s c k := fun c k q1 q2 q3 => by rw [up_ne (by omega), up_ne (by omega), up_ne (by omega), up_ne (by omega), e2 c k q1 q2]
    have ft : ∀ c k, c ≠ 176 → c ≠ 177 → ¬ (c = 121 ∧ k = 81) → up (up (up t 176 D.length (x : Int)) 177 D.length (n : Int)) 121 81 ((D.length : Int) + 1) c k = t c k := fun c k q1 q2 q3 => by rw [up_ne (by omega), up_ne (by omega), up_ne (by omega)]
    obtain ⟨g1, g2, g3, g4, g5⟩ := h
    refine ⟨MW_of g1 (funext fun k => fs 45 k (by omega) (by omega) (by omega)) (funext fun k => ft 175 k (by omega) (by omega) (by omega)) (fs 44 6 (by omega) (by omega) (by omega)) (ft 121 100 (by omega) (by omega) (by omega)), ?_, OU_of g3 (fs 48 3 (by omega) (by omega) (by omega)) (fs 48 4 (by omega) (by omega) (by omega)) (ft 121 106 (by omega) (by omega) (by omega)) (ft 121 107 (by omega) (by omega) (by omega)) (funext fun k => fs 49 k (by omega) (by omega) (by omega)) (funext fun k => ft 187 k (by omega) (by omega) (by omega)), KY_of g4 (fs 48 5 (by omega) (by omega) (by omega)) (fs 48 6 (by omega) (by omega) (by omega)) (ft 121 102 (by omega) (by omega) (by omega)) (ft 121 103 (by omega) (by omega) (by omega)) (funext fun k => fs 50 k (by omega) (by omega) (by omega)) (funext fun k => ft 186 k (by omega) (by omega) (by omega)), CO_of g5 (fs 48 8 (by omega) (by omega) (by omega)) (ft 121 108 (by omega) (by omega) (by omega))⟩
    have lB : (B.take i ++ (x, n) :: B.drop i).length = B.length + 1 := by rw [List.length_append, List.length_cons, List.length_take, List.length_drop]; omega
    refine ⟨B.take i ++ (x, n) :: B.drop i, D ++ [(x, n)], ?_, ?_, ?_, by omega, fun j hj => ?_, fun j hj => ?_, hso, ?_⟩
    · have q1 : (B.take i ++ (x, n) :: B.drop i).Perm ((x, n) :: B) := by
        have := List.perm_middle (a := (x, n)) (l₁ := B.take i) (l₂ := B.drop i)
        rw [List.take_append_drop] at this
        exact this
      have q2 : (D ++ [(x, n)]).Perm ((x, n) :: D) := List.perm_append_singleton _ _
      exact q1.trans ((List.Perm.cons _ hp).trans q2.symm)
    · rw [up_ne (by omega), up_same, lB]; omega
    · rw [up_same, List.length_append, List.length_singleton]; omega
    · rw [lB] at hj
      rw [gI1 (d := ((0, 0) : Nat × Nat)) hi]
      obtain ⟨f1, f2⟩ := e3 j
      by_cases cc : j = i
      · rw [if_neg (by omega), if_pos cc, cc]
        exact ⟨by rw [up_ne (by omega), up_ne (by omega), up_ne (by omega), up_same], by rw [up_ne (by omega), up_ne (by omega), up_same]⟩
      · rw [up_ne (by omega), up_ne (by omega), up_ne (by omega), up_ne (by omega), up_ne (by omega), up_ne (by omega), up_ne (by omega), up_ne (by omega), f1, f2]
        by_cases c2 : j < i
        · rw [if_pos c2, if_neg (by omega), if_neg (by omega)]
          exact hB j (by omega)
        · rw [if_neg c2, if_neg cc, if_pos (by omega), if_pos (by omega)]
          exact hB (j - 1) (by omega)
    · rw [List.length_append, List.length_singleton] at hj
      by_cases c2 : j < D.length
      · rw [gdL c2, up_ne (by omega), up_ne (by omega), up_ne (by omega), up_ne (by omega), up_ne (by omega), up_ne (by omega)]
        exact hD j c2
      · have : j = D.length := by omega
        subst this
        rw [gdR (Nat.le_refl _), Nat.sub_self, up_ne (by omega), up_ne (by omega), up_same, up_ne (by omega), up_same]
        exact ⟨rfl, rfl⟩
    · rw [up_same, sml_ins hi]; omega
  · exact ⟨by rw [up_ne (by omega), up_ne (by omega), up_ne (by omega), up_ne (by omega), e2 44 5 (by omega) (by omega)]; exact hg.1, by rw [up_ne (by omega), up_ne (by omega), up_ne (by omega)]; exact hg.2⟩
theorem mk48_dr {y : Int} (hv : w16 v) : DRf (m_make_48 v y) := fun s t _ hk => ⟨0, by unfold m_make_48; rw [hk.2, gr (by omega), if_neg (by omega)], by decide⟩
theorem mk42_dr {y : Int} (hv : w16 v) : DRf (m_make_42 v y) := DRf_bd err_dr (fun _ _ => mk48_dr hv)
theorem mk27_dr {y : Int} (hv : w16 v) (hy : rg y) : DRf (m_make_27 v y) := fun s t h hk => by
  obtain ⟨r1, a1, a2⟩ := mk42_dr (y := y) hv s t h hk
  obtain ⟨r2, b1, b2⟩ := mk48_dr (y := y) hv s t h hk
  obtain ⟨B, D, hp, _, h81, h100, _⟩ := h.2.1
  have := hp.length_eq
  unfold m_make_27
  rw [gd_pos hy]
  by_cases c : y = -1
  · exact ⟨r1, by rw [if_pos c]; exact a1, a2⟩
  · rw [if_neg c, h81, gr (by omega)]
    by_cases c2 : (D.length : Int) = 100
    · exact ⟨r1, by rw [if_pos c2]; exact a1, a2⟩
    · exact ⟨r2, by rw [if_neg c2]; exact b1, b2⟩
theorem mk10_dr (hv : w16 v) : DRf (m_make_10 v) := fun s t h hk => by
  obtain ⟨r, a1, a2⟩ := mk27_dr (y := 0) hv (by decide) s t h hk
  exact ⟨r, by unfold m_make_10; rw [hk.2, gr (by omega), if_neg (by omega)]; exact a1, a2⟩
theorem mk_dr (hv : w16 v) : DRf (m_make v) := fun s t h hk => by
  unfold m_make
  rw [gr (by omega)]
  by_cases c : 1 ≤ v
  · rw [if_pos c]
    exact mk10_dr hv s t h hk
  · rw [if_neg c]
    exact DRf_bd err_dr (fun _ _ => mk10_dr hv) s t h hk
theorem al_dc : DCl (mem_allocate v) := fun s t h hk => ⟨0, by unfold mem_allocate; rw [hk.1, gr (by omega), if_neg (by omega)], by decide⟩
/-- a block is made -/
theorem mk_ok1 (h : LB s t) (hg : gO s t) (hv : w16 v) : Ov (fun r r' => r = r' ∧ 2048 ≤ r ∧ r < 14336) (mem_allocate v s) (m_make v t) := by
  by_cases c : 1 ≤ v
  case neg =>
    have e1 : mem_allocate v s = bd (mem_fail 5 s) (fun r8 s8 => some (r8, s8)) := by
      unfold mem_allocate
      rw [hg.1, gr (by omega), if_pos rfl, gr (by omega), if_neg c]
    have e2 : m_make v t = bd (m_err 5 t) (fun _ s3 => m_make_10 v s3) := by
      unfold m_make
      rw [gr (by omega), if_neg c]
    rw [e1, e2]
    exact Ov_bd (V := fun _ _ => False) (fail_go h hg (by decide)) (fun _ _ _ _ q _ _ => q.elim) (fun r hr => DCl_some hr) (fun _ _ => mk10_dr hv)
  obtain ⟨n, rfl⟩ : ∃ n : Nat, v = (n : Int) := ⟨v.toNat, by omega⟩
  have h' := h
  obtain ⟨g1, ⟨B, D, hp, h3, h81, h100, hB, hD, hs, h4⟩, g3⟩ := h
  have hl := hp.length_eq
  have fd : ∀ b ∈ D, fre n (ffA n 2048 B) b := fun b hb => ffA_fre B 2048 hs b (hp.mem_iff.mpr hb)
  have fm : ∀ y, 2048 ≤ y → (∀ b ∈ D, fre n y b) → ffA n 2048 B ≤ y := fun y h1 h2 => ffA_min B 2048 y hs h1 (fun b hb => h2 b (hp.mem_iff.mp hb))
  have hx := ffA_le (n := n) B 2048 hs
  have hx2 := ffA_ge (n := n) B 2048 hs
  have f6 := fa6 (n := n) (t := t) (D := D) (x := ffA n 2048 B) (by omega) h81 (by omega) hD (fun b hb => (srt_mem B 2048 hs b (hp.mem_iff.mpr hb)).2.2) hx fd fm (ffA n 2048 B) 2048 (by omega) (by omega) hx2
  have R0 : m_make (n : Int) t = bd (m_freeAt_86 (n : Int) (ffA n 2048 B : Int) t) (fun r3 s3 => m_make_27 (n : Int) r3 s3) := by
    unfold m_make m_make_10 m_freeAt
    rw [gr (by omega), if_pos c, hg.2, gr (by omega), if_pos rfl]
    rw [show m_freeAt_6 (n : Int) 2048 1 t = _ from f6]
  have C0 : mem_allocate (n : Int) s = if s 44 3 < 100 then mem_allocate_42 (n : Int) 2048 0 s else bd (mem_fail 6 s) (fun r7 s7 => some (r7, s7)) := by
    unfold mem_allocate
    rw [hg.1, gr (by omega), if_pos rfl, gr (by omega), if_pos c, h3, gr (by omega)]
  rw [R0, C0, h3]
  -- failing
  have bad : ∀ y : Int, rg y → y = -1 ∨ B.length = 100 → Ov (fun r r' => r = r' ∧ 2048 ≤ r ∧ r < 14336) (bd (mem_fail 6 s) (fun r7 s7 => some (r7, s7))) (m_make_27 (n : Int) y t) := fun y hy q => by
    have e : m_make_27 (n : Int) y t = m_make_42 (n : Int) y t := by
      unfold m_make_27
      rw [gd_pos hy]
      by_cases c2 : y = -1
      · rw [if_pos c2]
      · rw [if_neg c2, h81, gr (by omega), if_pos (by omega)]
    rw [e]
    unfold m_make_42
    exact Ov_bd (V := fun _ _ => False) (fail_go h' hg (by decide)) (fun _ _ _ _ q _ _ => q.elim) (fun r hr => DCl_some hr) (fun _ _ => mk48_dr hv)
  by_cases c100 : B.length < 100
  case neg =>
    rw [if_neg (by omega)]
    unfold m_freeAt_86
    rw [gr (by omega)]
    by_cases c2 : 14336 < (ffA n 2048 B : Int) + (n : Int)
    · rw [if_pos c2, bq]
      exact bad _ (by decide) (Or.inl rfl)
    · rw [if_neg c2, bq]
      exact bad _ ⟨by omega, by omega⟩ (Or.inr (by omega))
  have A0 := al42 (n := n) (B := B) (s := s) B.length 0 2048 (by omega) (by omega) h100 h3 hB (by rw [List.drop_zero]; exact hs)
  rw [List.drop_zero, Nat.zero_add] at A0
  rw [if_pos (by omega), show mem_allocate_42 (n : Int) 2048 0 s = _ from A0]
  have hi := ffI_le (n := n) B 2048
  have F86 : m_freeAt_86 (n : Int) (ffA n 2048 B : Int) t = some ((if 14336 < (ffA n 2048 B : Int) + (n : Int) then -1 else (ffA n 2048 B : Int)), t) := by
    unfold m_freeAt_86
    rw [gr (by omega)]
    split <;> rfl
  rw [F86, bq]
  by_cases c2 : 14336 < (ffA n 2048 B : Int) + (n : Int)
  · have hi2 : ffI n 2048 B = B.length := by
      by_cases q : ffI n 2048 B < B.length
      · have := ffI_lt B 2048 hs q
        omega
      · omega
    rw [if_pos c2]
    unfold mem_allocate_75
    rw [gr (by omega), h3, gr (by omega), if_pos (by omega), gr (by omega), gr (by omega), if_neg (by omega)]
    exact bad _ (by decide) (Or.inl rfl)
  · rw [if_neg c2]
    unfold mem_allocate_75
    obtain ⟨s', t', a1, a2, a3, a4⟩ := put_bk h' hg hp h3 h81 c100 hB hD hs h4 (n := n) ⟨by omega, by omega⟩ (by omega)
    have eC : (gd (rg ((ffI n 2048 B : Nat) : Int)) (gd (rg (s 44 3)) (if ((ffI n 2048 B : Nat) : Int) = s 44 3 then gd (rg (14336 - (ffA n 2048 B : Int))) (gd (rg (n : Int)) (if (n : Int) ≤ 14336 - (ffA n 2048 B : Int) then mem_allocate_99 (n : Int) (ffA n 2048 B : Int) ((ffI n 2048 B : Nat) : Int) s else bd (mem_fail 6 s) (fun r7 s7 => some (r7, s7)))) else mem_allocate_99 (n : Int) (ffA n 2048 B : Int) ((ffI n 2048 B : Nat) : Int) s))) = some ((ffA n 2048 B : Int), s') := by
      rw [gr (by omega), h3, gr (by omega)]
      by_cases c3 : ((ffI n 2048 B : Nat) : Int) = (B.length : Int)
      · rw [if_pos c3, gr (by omega), gr (by omega), if_pos (by omega), a1]
      · rw [if_neg c3, a1]
    have eR : m_make_27 (n : Int) (ffA n 2048 B : Int) t = some ((ffA n 2048 B : Int), t') := by
      unfold m_make_27
      rw [gr (by omega), if_neg (by omega), h81, gr (by omega), if_neg (by omega), a2]
    rw [eR]
    exact Or.inl ⟨_, _, s', t', eC, rfl, ⟨rfl, by omega, by omega⟩, a3, a4⟩
end LBc
