/-! chips: the class's order, from the start -/
section CKj
variable {n : Nat} {s s' s0 : iS} {O : List Nat}
/-- behind x gates -/
def KI1 (n : Nat) (s0 : iS) (x : Nat) (O : List Nat) (s : iS) : Prop := (O.Nodup ∧ (∀ z ∈ O, z < x ∧ s0 114 z ≠ -1) ∧ s 108 16 = (O.length : Int) ∧ ∀ j, j < O.length → s 116 j = ((O.getD j 0 : Nat) : Int)) ∧ (∀ z, z < x → s0 114 z ≠ -1 → s 118 z = awt (guO n s0) (fun _ => false) z ∧ (z ∈ O ↔ awt (guO n s0) (fun _ => false) z = 0)) ∧ (∀ z, z < x → s 117 z = 1) ∧ (∀ y, y < n → chn s (s 119 y) (usL (guO n s0) y (2 * x))) ∧ ∀ c k, ¬ (c = 108 ∧ k = 16) → ¬ (116 ≤ c ∧ c ≤ 120) → s c k = s0 c k
def ncN (s : iS) (x : Nat) : List Nat := (List.range x).filter (fun z => decide (s 114 z ≠ -1))
theorem ncN_s {x : Nat} : ncN s (x + 1) = if s 114 x ≠ -1 then ncN s x ++ [x] else ncN s x := by
  unfold ncN
  rw [List.range_succ, List.filter_append]
  by_cases c : s 114 x ≠ -1
  · rw [if_pos c, List.filter_cons_of_pos (by simpa using c)]
    rfl
  · rw [if_neg c, List.filter_cons_of_neg (by simpa using c)]
    simp
theorem guO_e {x : Nat} (hx : x < n) (h : s0 114 x ≠ -1) : guO n s0 (2 * x) = cgv n s0 (s0 113 x) ∧ guO n s0 (2 * x + 1) = cgv n s0 (s0 114 x) := by
  unfold guO
  rw [show 2 * x / 2 = x by omega, show (2 * x + 1) / 2 = x by omega, if_neg (show ¬ (s0 114 x = -1 ∨ n ≤ x) by omega), if_neg (show ¬ (s0 114 x = -1 ∨ n ≤ x) by omega), if_pos (by omega), if_neg (by omega)]
  exact ⟨rfl, rfl⟩
theorem guO_no {x : Nat} (h : s0 114 x = -1) : guO n s0 (2 * x) = none ∧ guO n s0 (2 * x + 1) = none := by
  unfold guO
  rw [show 2 * x / 2 = x by omega, show (2 * x + 1) / 2 = x by omega, if_pos (Or.inl h), if_pos (Or.inl h)]
  exact ⟨rfl, rfl⟩
theorem cgv_of (h : s 114 = s0 114) {z : Int} : cgv n s z = cgv n s0 z := by unfold cgv; rw [h]
theorem cgv_lt {z : Int} {y : Nat} (h : cgv n s z = some y) : y < n ∧ s 114 y ≠ -1 ∧ z = ((194 + y : Nat) : Int) := by
  unfold cgv at h
  by_cases c : 194 ≤ z ∧ z < 194 + (n : Int) ∧ s 114 (z - 194).toNat ≠ -1
  · rw [if_pos c] at h
    injection h with h
    exact ⟨by omega, by rw [← h]; exact c.2.2, by omega⟩
  · rw [if_neg c] at h
    cases h
theorem srt_1 (h14 : s0 108 14 = (n : Int)) (hn : n ≤ 1500) (hA : ∀ x, x < n → (-1 ≤ s0 113 x ∧ s0 113 x < 1694) ∧ -1 ≤ s0 114 x ∧ s0 114 x < 1694) {x : Nat} (hx : x < n) (h : KI1 n s0 x O s) : ∃ s' O', brd_sortNands_17b ((ncN s0 x).length : Int) (x : Int) s = some (.inl (((ncN s0 (x + 1)).length : Int), (x : Int) + 1, s')) ∧ KI1 n s0 (x + 1) O' s' := by
  obtain ⟨⟨k1, k2, k3, k4⟩, k5, k6, k7, k8⟩ := h
  have e14 : s 108 14 = (n : Int) := by rw [k8 108 14 (by omega) (by omega)]; exact h14
  obtain ⟨s5, hs5⟩ : ∃ s5, s5 = up s 117 x 1 := ⟨_, rfl⟩
  have n5 : ∀ c k, c ≠ 117 → s5 c k = s c k := fun c k hc => by rw [hs5, up_ne (by omega)]
  have r5 : ∀ z, z < x + 1 → s5 117 z = 1 := fun z hz => by
    rw [hs5]
    by_cases e : z = x
    · rw [e, up_same]
    · rw [up_ne (by omega)]; exact k6 z (by omega)
  have m5 : ∀ c k, ¬ (c = 108 ∧ k = 16) → ¬ (116 ≤ c ∧ c ≤ 120) → s5 c k = s0 c k := fun c k c1 c2 => by rw [n5 c k (by omega)]; exact k8 c k c1 c2
  have e113 : s5 113 = s0 113 := funext fun k => m5 113 k (by omega) (by omega)
  have e114 : s5 114 = s0 114 := funext fun k => m5 114 k (by omega) (by omega)
  have c7 : ∀ y, y < n → chn s5 (s5 119 y) (usL (guO n s0) y (2 * x)) := fun y hy => by
    rw [n5 119 y (by omega)]
    exact chn_of (k7 y hy) (fun u _ => n5 120 u (by omega))
  have lO : O.length ≤ x := by
    have := nodup_len O (List.range x) k1 (fun z hz => List.mem_range.mpr (k2 z hz).1)
    rw [List.length_range] at this
    exact this
  have A5 : ∀ z, z < n → -1 ≤ s5 114 z ∧ s5 114 z < 1694 := fun z hz => by rw [e114]; exact (hA z hz).2
  have start : brd_sortNands_17b ((ncN s0 x).length : Int) (x : Int) s = bd (brd_isNand (x : Int) s5) (fun r6 s6 => gd (rg r6) (if r6 = 0 then some (.inl (((ncN s0 x).length : Int), ((x : Int) + 1), s6)) else bd (brd_noteUse (2 * (x : Int)) (s6 113 (x : Int).toNat) s6) (fun r9 s9 => bd (brd_noteUse ((2 * (x : Int)) + 1) (s9 114 (x : Int).toNat) s9) (fun r10 s10 => lt' (up s10 118 (x : Int).toNat (r9 + r10)) (fun s11 => gd (rg (s11 118 (x : Int).toNat)) (if (s11 118 (x : Int).toNat) = 0 then bd (brd_bringIn (x : Int) s11) (fun _ s14 => some (.inl ((((ncN s0 x).length : Int) + 1), ((x : Int) + 1), s14))) else some (.inl ((((ncN s0 x).length : Int) + 1), ((x : Int) + 1), s11)))))))) := by
    unfold brd_sortNands_17b
    rw [gr (by omega), gr (by omega), if_neg (by omega), gd_pos (by omega)]
    rw [Int.toNat_natCast, lt_eq, ← hs5]
  rw [start, c_isn (by rw [n5 108 14 (by omega)]; exact e14) hn A5 (by omega), bq, Int.toNat_natCast, e114]
  by_cases cN : s0 114 x = -1
  · rw [if_neg (fun q => q.2.2 cN), gr (by omega), if_pos rfl, ncN_s, if_neg (by omega)]
    obtain ⟨f1, f2⟩ := guO_no (n := n) cN
    refine ⟨s5, O, rfl, ⟨k1, fun z hz => ⟨by have := (k2 z hz).1; omega, (k2 z hz).2⟩, by rw [n5 108 16 (by omega)]; exact k3, fun j hj => by rw [n5 116 j (by omega)]; exact k4 j hj⟩, ?_, r5, ?_, m5⟩
    · intro z z1 z2
      have : z ≠ x := fun e => z2 (e ▸ cN)
      rw [n5 118 z (by omega)]
      exact k5 z (by omega) z2
    · intro y hy
      have : usL (guO n s0) y (2 * (x + 1)) = usL (guO n s0) y (2 * x) := by
        rw [show 2 * (x + 1) = 2 * x + 1 + 1 by omega]
        show (if guO n s0 (2 * x + 1) = some y then _ else (if guO n s0 (2 * x) = some y then _ else _)) = _
        rw [f1, f2, if_neg (fun q => by cases q), if_neg (fun q => by cases q)]
      rw [this]
      exact c7 y hy
  · rw [if_pos ⟨by omega, by omega, cN⟩, gr (by omega), if_neg (by omega), ncN_s, if_pos cN]
    obtain ⟨f1, f2⟩ := guO_e hx cN
    obtain ⟨a1, a2⟩ := hA x hx
    obtain ⟨s9, p1, p2, p3⟩ := note_1 (f := guO n s0) (n := n) (s := s5) (u := 2 * x) (z := s0 113 x) (by rw [n5 108 14 (by omega)]; exact e14) hn A5 (by omega) a1 (by rw [f1, cgv_of e114]) c7
    have e114' : s9 114 = s0 114 := by rw [← e114]; exact funext fun k => p3 114 k (by omega) (by omega)
    obtain ⟨s10, q1, q2, q3⟩ := note_1 (f := guO n s0) (n := n) (s := s9) (u := 2 * x + 1) (z := s0 114 x) (by rw [p3 108 14 (by omega) (by omega), n5 108 14 (by omega)]; exact e14) hn (fun z hz => by rw [e114']; exact (hA z hz).2) (by omega) a2 (by rw [f2, cgv_of e114']) p2
    rw [show (2 * (x : Int)) = ((2 * x : Nat) : Int) by omega, e113, p1, bq, e114', show ((2 * x : Nat) : Int) + 1 = ((2 * x + 1 : Nat) : Int) by omega, q1, bq]
    obtain ⟨a, ha⟩ : ∃ a, a = awt (guO n s0) (fun _ => false) x := ⟨_, rfl⟩
    have ha' : aw1 (guO n s0) (fun _ => false) (2 * x) + aw1 (guO n s0) (fun _ => false) (2 * x + 1) = a := by rw [ha]; rfl
    rw [ha']
    have ar : 0 ≤ a ∧ a ≤ 2 := by
      have r1 := aw1_rg (f := guO n s0) (ru := fun _ => false) (u := 2 * x)
      have r2 := aw1_rg (f := guO n s0) (ru := fun _ => false) (u := 2 * x + 1)
      omega
    obtain ⟨s11, h11⟩ : ∃ s11, s11 = up s10 118 x a := ⟨_, rfl⟩
    show ∃ s' O', gd (rg (up s10 118 x a 118 x)) (if up s10 118 x a 118 x = 0 then bd (brd_bringIn (x : Int) (up s10 118 x a)) _ else _) = _ ∧ _
    rw [← h11, show s11 118 x = a by rw [h11, up_same], gr (by omega)]
    have n11 : ∀ c k, c ≠ 117 → c ≠ 118 → c ≠ 119 → c ≠ 120 → s11 c k = s c k := fun c k c1 c2 c3 c4 => by rw [h11, up_ne (by omega), q3 c k c3 c4, p3 c k c3 c4, n5 c k c1]
    have r11 : ∀ z, z < x + 1 → s11 117 z = 1 := fun z hz => by rw [h11, up_ne (by omega), q3 117 z (by omega) (by omega), p3 117 z (by omega) (by omega)]; exact r5 z hz
    have w11 : ∀ z, z ≠ x → s11 118 z = s 118 z := fun z hz => by rw [h11, up_ne (by omega), q3 118 z (by omega) (by omega), p3 118 z (by omega) (by omega), n5 118 z (by omega)]
    have c11 : ∀ y, y < n → chn s11 (s11 119 y) (usL (guO n s0) y (2 * (x + 1))) := fun y hy => by
      rw [show s11 119 y = s10 119 y by rw [h11, up_ne (by omega)]]
      exact chn_of (q2 y hy) (fun u _ => by rw [h11, up_ne (by omega)])
    have m11 : ∀ c k, ¬ (c = 108 ∧ k = 16) → ¬ (116 ≤ c ∧ c ≤ 120) → s11 c k = s0 c k := fun c k c1 c2 => by rw [n11 c k (by omega) (by omega) (by omega) (by omega)]; exact k8 c k c1 c2
    have xO : x ∉ O := fun q => by have := (k2 x q).1; omega
    by_cases ca : a = 0
    · rw [if_pos ca]
      have e16 : s11 108 16 = (O.length : Int) := by rw [n11 108 16 (by omega) (by omega) (by omega) (by omega)]; exact k3
      have bi : brd_bringIn (x : Int) s11 = some (0, up (up s11 116 O.length (x : Int)) 108 16 ((O.length : Int) + 1)) := by
        unfold brd_bringIn
        rw [e16, gr (by omega), if_neg (by omega), gd_pos (by omega), Int.toNat_natCast]
        show some (0, up (up s11 116 O.length (x : Int)) 108 16 (up s11 116 O.length (x : Int) 108 16 + 1)) = _
        rw [show up s11 116 O.length (x : Int) 108 16 = s11 108 16 from up_ne (by omega), e16]
      rw [bi, bq]
      have ll : (O ++ [x]).length = O.length + 1 := by rw [List.length_append]; rfl
      have gdE : (O ++ [x]).getD O.length 0 = x := by
        rw [List.getD_eq_getElem?_getD, List.getElem?_append_right (Nat.le_refl _), Nat.sub_self]
        rfl
      refine ⟨_, O ++ [x], by rw [List.length_append]; rfl, ⟨?_, ?_, ?_, ?_⟩, ?_, ?_, ?_, ?_⟩
      · rw [List.nodup_append]
        exact ⟨k1, List.nodup_cons.mpr ⟨by simp, List.nodup_nil⟩, fun a ha b hb => by
          have : b = x := by simpa using hb
          rw [this]
          exact fun e => xO (e ▸ ha)⟩
      · intro z hz
        rcases List.mem_append.mp hz with q | q
        · exact ⟨by have := (k2 z q).1; omega, (k2 z q).2⟩
        · have : z = x := by simpa using q
          rw [this]; exact ⟨by omega, cN⟩
      · rw [ll, up_same]; omega
      · intro j hj
        rw [ll] at hj
        by_cases e : j = O.length
        · rw [e, gdE, up_ne (by omega), up_same]
        · rw [gd_appN (by omega), up_ne (by omega), up_ne (by omega), n11 116 j (by omega) (by omega) (by omega) (by omega)]
          exact k4 j (by omega)
      · intro z z1 z2
        rw [up_ne (by omega), up_ne (by omega), List.mem_append]
        by_cases e : z = x
        · rw [e, show s11 118 x = a by rw [h11, up_same], ← ha]
          exact ⟨rfl, fun _ => ca, fun _ => Or.inr (by simp)⟩
        · rw [w11 z e]
          obtain ⟨m1, m2⟩ := k5 z (by omega) z2
          refine ⟨m1, ?_⟩
          rw [← m2]
          constructor
          · rintro (q | q)
            · exact q
            · exact absurd (by simpa using q) e
          · exact Or.inl
      · intro z hz
        rw [up_ne (by omega), up_ne (by omega)]
        exact r11 z hz
      · intro y hy
        rw [up_ne (by omega), up_ne (by omega)]
        exact chn_of (c11 y hy) (fun u _ => by rw [up_ne (by omega), up_ne (by omega)])
      · intro c k c1 c2
        rw [up_ne (by omega), up_ne (by omega)]
        exact m11 c k c1 c2
    · rw [if_neg ca]
      refine ⟨s11, O, by rw [List.length_append]; rfl, ⟨k1, fun z hz => ⟨by have := (k2 z hz).1; omega, (k2 z hz).2⟩, by rw [n11 108 16 (by omega) (by omega) (by omega) (by omega)]; exact k3, fun j hj => by rw [n11 116 j (by omega) (by omega) (by omega) (by omega)]; exact k4 j hj⟩, ?_, r11, c11, m11⟩
      intro z z1 z2
      by_cases e : z = x
      · rw [e, show s11 118 x = a by rw [h11, up_same], ← ha]
        exact ⟨rfl, fun q => absurd q xO, fun q => absurd q ca⟩
      · rw [w11 z e]
        exact k5 z (by omega) z2
/-- the class's order -/
theorem c_sort (h14 : s 108 14 = (n : Int)) (hn : n ≤ 1500) (hA : ∀ x, x < n → (-1 ≤ s 113 x ∧ s 113 x < 1694) ∧ -1 ≤ s 114 x ∧ s 114 x < 1694) : ∃ s' O r, brd_sortNands s = some (r, s') ∧ (r = 0 ∨ r = 1) ∧ (r = 1 ↔ ∀ x, x < n → s 114 x ≠ -1 → x ∈ O) ∧ s' 108 16 = (O.length : Int) ∧ (∀ j, j < O.length → s' 116 j = ((O.getD j 0 : Nat) : Int)) ∧ SRT n (fun x => s 114 x ≠ -1) (fun x => cgv n s (s 113 x)) (fun x => cgv n s (s 114 x)) O (s' 117) ∧ (∀ x ∈ O, 1 ≤ s' 117 x ∧ s' 117 x ≤ 1502) ∧ ∀ c k, ¬ (c = 108 ∧ k = 16) → ¬ (116 ≤ c ∧ c ≤ 120) → s' c k = s c k := by
  obtain ⟨s2, h2⟩ : ∃ s2, s2 = up (sr s 119 (fun i => if i < 1500 then -1 else s 119 i)) 108 16 0 := ⟨_, rfl⟩
  have n2 : ∀ c k, ¬ (c = 108 ∧ k = 16) → c ≠ 119 → s2 c k = s c k := fun c k c1 c2 => by rw [h2, up_ne c1, sr_ne c2]
  have K0 : KI1 n s 0 [] s2 := ⟨⟨List.nodup_nil, fun z hz => (by cases hz), by rw [h2, up_same]; rfl, fun j hj => absurd hj (Nat.not_lt_zero j)⟩, fun z hz => absurd hz (Nat.not_lt_zero z), fun z hz => absurd hz (Nat.not_lt_zero z), fun y hy => by
    show s2 119 y = -1
    rw [h2, up_ne (by omega), sr_at, if_pos (by omega)], fun c k c1 c2 => n2 c k c1 (by omega)⟩
  have L := lpG (f := fun l : Int × Int × iS => brd_sortNands_17b (l.1) (l.2.1) (l.2.2)) (M := n) (I := fun x l => l.1 = ((ncN s x).length : Int) ∧ l.2.1 = (x : Int) ∧ ∃ O, KI1 n s x O l.2.2) (J := fun e => e.1 = ((ncN s n).length : Int) ∧ ∃ O, KI1 n s n O e.2) (by
    rintro x ⟨v1, v2, u⟩ hx ⟨e1, e2, O, hO⟩
    have e1' : v1 = ((ncN s x).length : Int) := e1
    have e2' : v2 = (x : Int) := e2
    subst e1' e2'
    obtain ⟨s', O', a1, a2⟩ := srt_1 h14 hn hA hx hO
    exact ⟨_, a1, rfl, by show (x : Int) + 1 = ((x + 1 : Nat) : Int); omega, O', a2⟩) (by
    rintro ⟨v1, v2, u⟩ ⟨e1, e2, O, hO⟩
    have e1' : v1 = ((ncN s n).length : Int) := e1
    have e2' : v2 = (n : Int) := e2
    subst e1' e2'
    have hO' : KI1 n s n O u := hO
    refine ⟨(((ncN s n).length : Int), u), ?_, rfl, O, hO⟩
    show brd_sortNands_17b ((ncN s n).length : Int) (n : Int) u = _
    unfold brd_sortNands_17b
    have e14 : u 108 14 = (n : Int) := by rw [hO'.2.2.2.2 108 14 (by omega) (by omega)]; exact h14
    rw [gr (by omega), gr (by omega), if_pos (by omega)]) n 0 ((0 : Int), (0 : Int), s2) (by omega) ⟨rfl, rfl, [], K0⟩
  obtain ⟨⟨al, s3⟩, l1, l2, O, hO⟩ := L
  have l2' : al = ((ncN s n).length : Int) := l2
  have hO' : KI1 n s n O s3 := hO
  obtain ⟨⟨k1, k2, k3, k4⟩, k5, k6, k7, k8⟩ := hO'
  have aw0 : ∀ {z}, z ∈ O → guO n s (2 * z) = none ∧ guO n s (2 * z + 1) = none := by
    intro z hz
    obtain ⟨z1, z2⟩ := k2 z hz
    have a := (k5 z z1 z2).2.mp hz
    have r1 := aw1_rg (f := guO n s) (ru := fun _ => false) (u := 2 * z)
    have r2 := aw1_rg (f := guO n s) (ru := fun _ => false) (u := 2 * z + 1)
    unfold awt at a
    have b1 : aw1 (guO n s) (fun _ => false) (2 * z) = 0 := by omega
    have b2 : aw1 (guO n s) (fun _ => false) (2 * z + 1) = 0 := by omega
    unfold aw1 at b1 b2
    constructor
    · cases q : guO n s (2 * z) with
      | none => rfl
      | some y => rw [q, if_pos ⟨rfl, rfl⟩] at b1; cases b1
    · cases q : guO n s (2 * z + 1) with
      | none => rfl
      | some y => rw [q, if_pos ⟨rfl, rfl⟩] at b2; cases b2
  have hK : KIn n (guO n s) (fun x => s 114 x ≠ -1) (fun _ => false) O 0 s3 := by
    refine ⟨⟨k1, k2, k3, k4⟩, fun z z1 z2 => ?_, fun u _ q => (by cases q), fun j hj y hy => ?_, fun j hj => ?_⟩
    · obtain ⟨m1, m2⟩ := k5 z z1 z2
      refine ⟨m1, m2, ?_, by rw [k6 z z1]; omega, by rw [k6 z z1]; omega⟩
      rw [k6 z z1]
      unfold rl1
      rw [if_neg (fun q => by cases q), if_neg (fun q => by cases q)]
      rfl
    · obtain ⟨q1, q2⟩ := aw0 (gd_memN hj)
      rw [q1, q2] at hy
      rcases hy with hy | hy <;> cases hy
    · rw [k6 _ (k2 _ (gd_memN hj)).1]
      omega
  have hf : ∀ u y, guO n s u = some y → u < 2 * n ∧ s 114 (u / 2) ≠ -1 ∧ y < n := by
    intro u y h
    unfold guO at h
    by_cases c : s 114 (u / 2) = -1 ∨ n ≤ u / 2
    · rw [if_pos c] at h
      cases h
    · rw [if_neg c] at h
      refine ⟨by omega, fun e => c (Or.inl e), ?_⟩
      by_cases c2 : u % 2 = 0
      · rw [if_pos c2] at h; exact (cgv_lt h).1
      · rw [if_neg c2] at h; exact (cgv_lt h).1
  obtain ⟨s', ru, O', m1, m2, m3, m4⟩ := rel_o (nb := fun x => s 114 x ≠ -1) (s0 := s3) (v1 := al) hn hf k7 n 0 (fun _ => false) O s3 (by omega) (Nat.zero_le _) hK (fun u _ => ⟨fun q => (by cases q), fun ⟨j, j1, _⟩ => absurd j1 (Nat.not_lt_zero j)⟩) (fun _ _ _ => rfl)
  obtain ⟨⟨o1, o2, o3, o4⟩, o5, o6, o7, o8⟩ := m2
  have o2' : ∀ z ∈ O', z < n ∧ s 114 z ≠ -1 := o2
  have lO' : O'.length ≤ n := by
    have := nodup_len O' (List.range n) o1 (fun x hx => List.mem_range.mpr (o2' x hx).1)
    rw [List.length_range] at this
    exact this
  have frame : ∀ c k, ¬ (c = 108 ∧ k = 16) → ¬ (116 ≤ c ∧ c ≤ 120) → s' c k = s c k := fun c k c1 c2 => by rw [m4 c k c1 (by omega)]; exact k8 c k c1 c2
  have mN : ∀ x, x ∈ ncN s n ↔ x < n ∧ s 114 x ≠ -1 := fun x => by
    unfold ncN
    rw [List.mem_filter, List.mem_range]
    simp
  have ndN : (ncN s n).Nodup := by
    unfold ncN
    exact List.Sublist.nodup List.filter_sublist List.nodup_range
  have al' : O'.length = (ncN s n).length ↔ ∀ x, x < n → s 114 x ≠ -1 → x ∈ O' := by
    rw [all_in o1 ndN (fun x hx => (mN x).mpr (o2' x hx))]
    exact ⟨fun q x x1 x2 => q x ((mN x).mpr ⟨x1, x2⟩), fun q x hx => q x ((mN x).mp hx).1 ((mN x).mp hx).2⟩
  have nl : (ncN s n).length ≤ n := by
    have := nodup_len (ncN s n) (List.range n) ndN (fun x hx => List.mem_range.mpr ((mN x).mp hx).1)
    rw [List.length_range] at this
    exact this
  refine ⟨s', O', if O'.length = (ncN s n).length then 1 else 0, ?_, ?_, ?_, o3, o4, ⟨o1, o2', ?_, ?_, ?_⟩, ?_, frame⟩
  · unfold brd_sortNands
    rw [fill_ok (by omega), bq]
    show lt' (up (sr s 119 (fun i => if i < 1500 then -1 else s 119 i)) 108 16 0) (fun s2 => brd_sortNands_17 0 0 s2) = _
    rw [lt_eq, ← h2]
    unfold brd_sortNands_17
    rw [show lp (L := Int × Int × iS) (E := Int × iS) (fun l => brd_sortNands_17b (l.1) (l.2.1) (l.2.2)) (0, 0, s2) = some (al, s3) from l1, bn]
    unfold brd_sortNands_98 brd_sortNands_100
    have m1' : lp (L := Int × iS) (E := iS) (fun l => brd_sortNands_100b al (l.1) (l.2)) ((0 : Int), s3) = some s' := m1
    show (lp (L := Int × iS) (E := iS) (fun l => brd_sortNands_100b al (l.1) (l.2)) ((0 : Int), s3)).bind _ = _
    rw [m1', bn]
    unfold brd_sortNands_131
    rw [o3, gr (by omega), l2', gr (by omega)]
    by_cases c : O'.length = (ncN s n).length
    · rw [if_pos c, if_pos (by omega)]
    · rw [if_neg c, if_neg (by omega)]
  · split
    · exact Or.inr rfl
    · exact Or.inl rfl
  · rw [← al']
    split
    · exact ⟨fun _ => by assumption, fun _ => rfl⟩
    · exact ⟨fun q => absurd q (by decide), fun q => absurd q (by assumption)⟩
  · intro j hj y hy
    obtain ⟨z1, z2⟩ := o2' _ (gd_memN hj)
    obtain ⟨f1, f2⟩ := guO_e (s0 := s) z1 z2
    refine o7 j hj y ?_
    rw [f1, f2]
    exact hy
  · intro x x1 x2 hx
    obtain ⟨f1, f2⟩ := guO_e (s0 := s) x1 x2
    refine (o5 x x1 x2).2.1.mpr ?_
    have z0 : ∀ u, (u = 2 * x ∨ u = 2 * x + 1) → aw1 (guO n s) ru u = 0 := by
      intro u hu
      unfold aw1
      by_cases c : (guO n s u).isSome = true ∧ ru u = false
      · obtain ⟨c1, c2⟩ := c
        obtain ⟨y, hy⟩ := Option.isSome_iff_exists.mp c1
        have yO : y ∈ O' := by
          refine hx y ?_
          rcases hu with e | e
          · left; show cgv n s (s 113 x) = _; rw [← f1, ← e]; exact hy
          · right; show cgv n s (s 114 x) = _; rw [← f2, ← e]; exact hy
        obtain ⟨j, j1, j2⟩ := mem_gdN yO
        have := (m3 u (by omega)).mpr ⟨j, j1, by rw [j2]; exact hy⟩
        rw [this] at c2
        cases c2
      · rw [if_neg c]
    unfold awt
    rw [z0 _ (Or.inl rfl), z0 _ (Or.inr rfl)]
    rfl
  · intro x hx
    obtain ⟨x1, x2⟩ := o2' x hx
    obtain ⟨f1, f2⟩ := guO_e (s0 := s) x1 x2
    obtain ⟨-, w2, w3, -, -⟩ := o5 x x1 x2
    have a0 := w2.mp hx
    rw [w3]
    have r1 := aw1_rg (f := guO n s) (ru := ru) (u := 2 * x)
    have r2 := aw1_rg (f := guO n s) (ru := ru) (u := 2 * x + 1)
    unfold awt at a0
    have rr : ∀ u, aw1 (guO n s) ru u = 0 → rl1 (guO n s) ru s' u = lvo (s' 117) (guO n s u) := by
      intro u hu
      unfold aw1 at hu
      unfold rl1
      cases q : ru u with
      | true => rw [if_pos rfl]
      | false =>
        rw [if_neg (by decide)]
        cases q2 : guO n s u with
        | none => rfl
        | some y => rw [q, q2, if_pos ⟨rfl, rfl⟩] at hu; cases hu
    rw [rr _ (by omega), rr _ (by omega), f1, f2]
  · intro x hx
    obtain ⟨x1, x2⟩ := o2' x hx
    obtain ⟨-, -, -, w4, w5⟩ := o5 x x1 x2
    exact ⟨w4, by omega⟩
end CKj
