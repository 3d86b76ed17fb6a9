/-! chips: the class puts the Nands in order -/
section CKg
variable (n : Nat) (f : Nat → Option Nat) (nb : Nat → Prop) (ru : Nat → Bool)
/-- the Nand that gives use u (2 x + which) -/
def guO (s : iS) (u : Nat) : Option Nat := if s 114 (u / 2) = -1 ∨ n ≤ u / 2 then none else if u % 2 = 0 then cgv n s (s 113 (u / 2)) else cgv n s (s 114 (u / 2))
/-- uses of a giver, the newest first -/
def usL (y : Nat) : Nat → List Nat
  | 0 => []
  | u + 1 => if f u = some y then u :: usL y u else usL y u
def chn (s : iS) : Int → List Nat → Prop
  | h, [] => h = -1
  | h, u :: l => h = (u : Int) ∧ chn s (s 120 u) l
def aw1 (u : Nat) : Int := if (f u).isSome = true ∧ ru u = false then 1 else 0
def awt (z : Nat) : Int := aw1 f ru (2 * z) + aw1 f ru (2 * z + 1)
def rl1 (s : iS) (u : Nat) : Int := if ru u = true then lvo (s 117) (f u) else 0
def KIn (O : List Nat) (i : Nat) (s : iS) : Prop := (O.Nodup ∧ (∀ z ∈ O, z < n ∧ nb z) ∧ s 108 16 = (O.length : Int) ∧ ∀ j, j < O.length → s 116 j = ((O.getD j 0 : Nat) : Int)) ∧ (∀ z, z < n → nb z → s 118 z = awt f ru z ∧ (z ∈ O ↔ awt f ru z = 0) ∧ s 117 z = 1 + max (rl1 f ru s (2 * z)) (rl1 f ru s (2 * z + 1)) ∧ 1 ≤ s 117 z ∧ s 117 z ≤ (i : Int) + 2) ∧ (∀ u, u < 2 * n → ru u = true → ∃ j, j ≤ i ∧ j < O.length ∧ f u = some (O.getD j 0)) ∧ (∀ j, j < O.length → ∀ y, (f (2 * O.getD j 0) = some y ∨ f (2 * O.getD j 0 + 1) = some y) → ∃ j', j' < j ∧ O.getD j' 0 = y) ∧ ∀ j, j < O.length → s 117 (O.getD j 0) ≤ (j : Int) + 1
end CKg
section CKh
variable {n : Nat} {f : Nat → Option Nat} {nb : Nat → Prop} {ru : Nat → Bool} {O : List Nat} {s s' : iS} {i : Nat}
theorem usL_m {y x : Nat} : ∀ u, x ∈ usL f y u ↔ x < u ∧ f x = some y
  | 0 => by
    show x ∈ [] ↔ _
    constructor
    · intro h; cases h
    · intro h; exact absurd h.1 (Nat.not_lt_zero x)
  | u + 1 => by
    have ih : x ∈ usL f y u ↔ _ := usL_m u
    show x ∈ (if f u = some y then u :: usL f y u else usL f y u) ↔ _
    by_cases c : f u = some y
    · rw [if_pos c, List.mem_cons, ih]
      constructor
      · rintro (z | z)
        · rw [z]; exact ⟨by omega, c⟩
        · exact ⟨by omega, z.2⟩
      · rintro ⟨z1, z2⟩
        by_cases e : x = u
        · exact Or.inl e
        · exact Or.inr ⟨by omega, z2⟩
    · rw [if_neg c, ih]
      constructor
      · rintro ⟨z1, z2⟩; exact ⟨by omega, z2⟩
      · rintro ⟨z1, z2⟩
        have : x ≠ u := fun e => c (e ▸ z2)
        exact ⟨by omega, z2⟩
theorem usL_n {y : Nat} : ∀ u, (usL f y u).Nodup ∧ (usL f y u).length ≤ u
  | 0 => ⟨List.nodup_nil, Nat.le_refl _⟩
  | u + 1 => by
    obtain ⟨h1, h2⟩ : (usL f y u).Nodup ∧ (usL f y u).length ≤ u := usL_n u
    have e : usL f y (u + 1) = if f u = some y then u :: usL f y u else usL f y u := rfl
    rw [e]
    by_cases c : f u = some y
    · rw [if_pos c]
      refine ⟨List.nodup_cons.mpr ⟨fun z => ?_, h1⟩, ?_⟩
      · have := ((usL_m u).mp z).1
        omega
      · rw [List.length_cons]; omega
    · rw [if_neg c]
      exact ⟨h1, by omega⟩
theorem chn_of : ∀ {l : List Nat} {h : Int}, chn s h l → (∀ u ∈ l, s' 120 u = s 120 u) → chn s' h l
  | [], _, e, _ => e
  | u :: l, h, e, hk => by
    obtain ⟨e1, e2⟩ := e
    refine ⟨e1, ?_⟩
    rw [hk u List.mem_cons_self]
    exact chn_of e2 (fun x hx => hk x (List.mem_cons_of_mem _ hx))
theorem aw1_rg {u : Nat} : aw1 f ru u = 0 ∨ aw1 f ru u = 1 := by
  unfold aw1
  split
  · exact Or.inr rfl
  · exact Or.inl rfl
/-- one use is released -/
theorem rel_1 (hn : n ≤ 1500) (hf : ∀ u y, f u = some y → u < 2 * n ∧ nb (u / 2) ∧ y < n) (h : KIn n f nb ru O i s) (hi : i < O.length) {u : Nat} (hu : f u = some (O.getD i 0)) (hr : ru u = false) {v3 : Int} (hv : 0 ≤ v3 ∧ v3 < 3000) : ∃ s' E, brd_releaseUsers_9b ((O.getD i 0 : Nat) : Int) (u : Int) v3 s = some (.inl (s 120 u, v3 + 1, s')) ∧ KIn n f nb (fun x => if x = u then true else ru x) (O ++ E) i s' ∧ ∀ c k, ¬ (c = 108 ∧ k = 16) → ¬ (116 ≤ c ∧ c ≤ 118) → s' c k = s c k := by
  obtain ⟨⟨k1, k2, k3, k4⟩, k5, k6, k7, k8⟩ := h
  obtain ⟨y, hy⟩ : ∃ y, y = O.getD i 0 := ⟨_, rfl⟩
  obtain ⟨z, hz⟩ : ∃ z, z = u / 2 := ⟨_, rfl⟩
  obtain ⟨u1, u2, u3⟩ := hf u _ hu
  rw [← hy] at hu u3 ⊢
  rw [← hz] at u2
  have zn : z < n := by omega
  have yO : y ∈ O := hy ▸ gd_memN hi
  obtain ⟨y1, y2⟩ := k2 y yO
  obtain ⟨p1, p2, p3, p4, p5⟩ := k5 z zn u2
  obtain ⟨q1, q2, q3, q4, q5⟩ := k5 y y1 y2
  have uz : u = 2 * z ∨ u = 2 * z + 1 := by omega
  have a1 : aw1 f ru u = 1 := by
    unfold aw1
    rw [hu, if_pos ⟨rfl, hr⟩]
  have zO : z ∉ O := by
    intro q
    have := p2.mp q
    unfold awt at this
    have r1 := aw1_rg (f := f) (ru := ru) (u := 2 * z)
    have r2 := aw1_rg (f := f) (ru := ru) (u := 2 * z + 1)
    rcases uz with e | e <;> rw [e] at a1 <;> omega
  have yz : y ≠ z := fun e => zO (e ▸ yO)
  have lO : O.length < n := by
    have := nodup_len (z :: O) (List.range n) (List.nodup_cons.mpr ⟨zO, k1⟩) (fun x hx => by
      rcases List.mem_cons.mp hx with e | e
      · rw [e]; exact List.mem_range.mpr zn
      · exact List.mem_range.mpr (k2 x e).1)
    rw [List.length_range, List.length_cons] at this
    exact this
  have k8i := k8 i hi
  rw [← hy] at k8i
  obtain ⟨ru', hru⟩ : ∃ ru' : Nat → Bool, ru' = fun x => if x = u then true else ru x := ⟨_, rfl⟩
  have ruu : ru' u = true := by rw [hru]; exact if_pos rfl
  have run : ∀ x, x ≠ u → ru' x = ru x := fun x hx => by rw [hru]; exact if_neg hx
  have awu : aw1 f ru' u = 0 := by
    unfold aw1
    rw [ruu, if_neg (fun q => by cases q.2)]
  have awn : ∀ x, x ≠ u → aw1 f ru' x = aw1 f ru x := fun x hx => by
    unfold aw1
    rw [run x hx]
  have awz : awt f ru' z = awt f ru z - 1 := by
    unfold awt
    rcases uz with e | e
    · rw [← e, awu, a1, awn (u + 1) (by omega)]
      omega
    · rw [← e, awu, a1, awn (2 * z) (by omega)]
      omega
  have awo : ∀ x, x ≠ z → awt f ru' x = awt f ru x := fun x hx => by
    unfold awt
    rw [awn (2 * x) (by omega), awn (2 * x + 1) (by omega)]
  obtain ⟨w, hw⟩ : ∃ w, w = max (s 117 z) (s 117 y + 1) := ⟨_, rfl⟩
  obtain ⟨s9, hs9⟩ : ∃ s9, s9 = up (up s 117 z w) 118 z (s 118 z - 1) := ⟨_, rfl⟩
  have n117 : ∀ x, x ≠ z → s9 117 x = s 117 x := fun x hx => by rw [hs9, up_ne (by omega), up_ne (by omega)]
  have z117 : s9 117 z = w := by rw [hs9, up_ne (by omega), up_same]
  have n118 : ∀ x, x ≠ z → s9 118 x = s 118 x := fun x hx => by rw [hs9, up_ne (by omega), up_ne (by omega)]
  have z118 : s9 118 z = s 118 z - 1 := by rw [hs9, up_same]
  have no9 : ∀ c k, c ≠ 117 → c ≠ 118 → s9 c k = s c k := fun c k c1 c2 => by rw [hs9, up_ne (by omega), up_ne (by omega)]
  have hrl : ∀ (t : iS), (∀ x, t 117 x = s9 117 x) → ∀ x, x ≠ u → x < 2 * n → rl1 f ru' t x = rl1 f ru s x := by
    intro t ht x hx xn
    unfold rl1
    rw [run x hx]
    by_cases c : ru x = true
    · rw [if_pos c, if_pos c]
      obtain ⟨j, j1, j2, j3⟩ := k6 x xn c
      rw [j3]
      show t 117 _ = s 117 _
      rw [ht]
      exact n117 _ (fun e => zO (e ▸ gd_memN j2))
    · rw [if_neg c, if_neg c]
  have hrlu : ∀ (t : iS), (∀ x, t 117 x = s9 117 x) → rl1 f ru' t u = s 117 y := by
    intro t ht
    unfold rl1
    rw [if_pos ruu, hu]
    show t 117 y = _
    rw [ht]
    exact n117 y yz
  have rlu : rl1 f ru s u = 0 := by
    unfold rl1
    rw [hr, if_neg (by decide)]
  -- the numbers of a Nand
  have num : ∀ (t : iS), (∀ x, t 117 x = s9 117 x) → (∀ x, t 118 x = s9 118 x) → ∀ x, x < n → nb x → t 118 x = awt f ru' x ∧ t 117 x = 1 + max (rl1 f ru' t (2 * x)) (rl1 f ru' t (2 * x + 1)) ∧ 1 ≤ t 117 x ∧ t 117 x ≤ (i : Int) + 2 := by
    intro t t1 t2 x x1 x2
    rw [t2, t1]
    by_cases e : x = z
    · rw [e, z118, awz, p1, z117]
      refine ⟨rfl, ?_, by omega, by omega⟩
      rcases uz with e' | e'
      · rw [← e', hrlu t t1, hrl t t1 (u + 1) (by omega) (by omega), hw, p3, ← e', rlu]
        omega
      · rw [← e', hrlu t t1, hrl t t1 (2 * z) (by omega) (by omega), hw, p3, ← e', rlu]
        omega
    · obtain ⟨m1, m2, m3, m4, m5⟩ := k5 x x1 x2
      rw [n118 x e, n117 x e, awo x e, hrl t t1 (2 * x) (by omega) (by omega), hrl t t1 (2 * x + 1) (by omega) (by omega)]
      exact ⟨m1, m3, m4, m5⟩
  have step : ∀ K : iS → Option ((Int × Int × iS) ⊕ iS), True := fun _ => trivial
  have eT : ((u : Int).tdiv 2) = (z : Int) := by
    rw [hz, Int.tdiv_eq_ediv_of_nonneg (by omega)]
    omega
  by_cases c0 : awt f ru' z = 0
  · -- it comes in
    obtain ⟨s', hs'⟩ : ∃ s', s' = up (up s9 116 O.length (z : Int)) 108 16 ((O.length : Int) + 1) := ⟨_, rfl⟩
    have g117 : ∀ x, s' 117 x = s9 117 x := fun x => by rw [hs', up_ne (by omega), up_ne (by omega)]
    have g118 : ∀ x, s' 118 x = s9 118 x := fun x => by rw [hs', up_ne (by omega), up_ne (by omega)]
    have gdL : ∀ j, j < O.length → (O ++ [z]).getD j 0 = O.getD j 0 := fun j hj => by
      rw [List.getD_eq_getElem?_getD, List.getElem?_append_left hj, List.getD_eq_getElem?_getD]
    have gdE : (O ++ [z]).getD O.length 0 = z := by
      rw [List.getD_eq_getElem?_getD, List.getElem?_append_right (Nat.le_refl _), Nat.sub_self]
      rfl
    have ll : (O ++ [z]).length = O.length + 1 := by rw [List.length_append]; rfl
    refine ⟨s', [z], ?_, ?_, ?_⟩
    · unfold brd_releaseUsers_9b
      rw [gr (by omega), if_neg (by omega), gr (by omega), if_neg (by omega), eT, gd_pos (by omega), gd_pos (by omega), Int.toNat_natCast, Int.toNat_natCast]
      have mx : mth_max (s 117 z) (s 117 y + 1) s = some (w, s) := by
        unfold mth_max
        rw [gr (by omega), gr (by omega)]
        by_cases q : s 117 z < s 117 y + 1
        · rw [if_pos q, show w = s 117 y + 1 by omega]
        · rw [if_neg q, show w = s 117 z by omega]
      rw [mx, bq]
      show gd (rg (up (up s 117 z w) 118 z (up s 117 z w 118 z - 1) 118 z)) _ = _
      rw [show up s 117 z w 118 z = s 118 z from up_ne (by omega), ← hs9]
      show gd (rg (s9 118 z)) (if s9 118 z = 0 then bd (brd_bringIn (z : Int) s9) _ else _) = _
      rw [gr (by rw [z118]; have := aw1_rg (f := f) (ru := ru) (u := 2 * z); have := aw1_rg (f := f) (ru := ru) (u := 2 * z + 1); unfold awt at p1; omega), if_pos (by omega)]
      have e16 : s9 108 16 = (O.length : Int) := by rw [no9 108 16 (by omega) (by omega)]; exact k3
      have bi : brd_bringIn (z : Int) s9 = some (0, s') := by
        unfold brd_bringIn
        rw [e16, gr (by omega), if_neg (by omega), gd_pos (by omega), Int.toNat_natCast]
        show some (0, up (up s9 116 O.length (z : Int)) 108 16 (up s9 116 O.length (z : Int) 108 16 + 1)) = _
        rw [show up s9 116 O.length (z : Int) 108 16 = s9 108 16 from up_ne (by omega), e16, hs']
      rw [bi, bq]
      unfold brd_releaseUsers_78
      rw [gd_pos (by omega), Int.toNat_natCast]
      rw [show s' 120 u = s 120 u by rw [hs', up_ne (by omega), up_ne (by omega)]; exact no9 120 u (by omega) (by omega)]
    · refine ⟨⟨?_, ?_, ?_, ?_⟩, ?_, ?_, ?_, ?_⟩
      · rw [List.nodup_append]
        exact ⟨k1, List.nodup_cons.mpr ⟨by simp, List.nodup_nil⟩, fun a ha b hb => by
          have : b = z := by simpa using hb
          rw [this]
          exact fun e => zO (e ▸ ha)⟩
      · intro x hx
        rcases List.mem_append.mp hx with q | q
        · exact k2 x q
        · have : x = z := by simpa using q
          rw [this]; exact ⟨zn, u2⟩
      · rw [ll, hs', up_same]; omega
      · intro j hj
        rw [ll] at hj
        by_cases e : j = O.length
        · rw [e, gdE, hs', up_ne (by omega), up_same]
        · rw [gdL j (by omega), hs', up_ne (by omega), up_ne (by omega), no9 116 j (by omega) (by omega)]
          exact k4 j (by omega)
      · intro x x1 x2
        rw [← hru]
        obtain ⟨m1, m2, m3⟩ := num s' g117 g118 x x1 x2
        refine ⟨m1, ?_, m2, m3⟩
        rw [List.mem_append]
        by_cases e : x = z
        · rw [e]
          exact ⟨fun _ => c0, fun _ => Or.inr (by simp)⟩
        · rw [awo x e, ← (k5 x x1 x2).2.1]
          constructor
          · rintro (q | q)
            · exact q
            · exact absurd (by simpa using q) e
          · exact Or.inl
      · intro x x1 x2
        rw [← hru] at x2
        by_cases e : x = u
        · exact ⟨i, Nat.le_refl _, by omega, by rw [e, gdL i hi, ← hy]; exact hu⟩
        · rw [run x e] at x2
          obtain ⟨j, j1, j2, j3⟩ := k6 x x1 x2
          exact ⟨j, j1, by omega, by rw [gdL j j2]; exact j3⟩
      · intro j hj y' hy'
        rw [ll] at hj
        by_cases e : j = O.length
        · rw [e, gdE] at hy'
          have al : ∀ x, (x = 2 * z ∨ x = 2 * z + 1) → f x = some y' → ru' x = true := by
            intro x hx fx
            by_cases q : ru' x = true
            · exact q
            · have a0 : aw1 f ru' x = 1 := by
                unfold aw1
                rw [fx, if_pos ⟨rfl, by cases h : ru' x with | true => exact absurd h q | false => rfl⟩]
              have r1 := aw1_rg (f := f) (ru := ru') (u := 2 * z)
              have r2 := aw1_rg (f := f) (ru := ru') (u := 2 * z + 1)
              unfold awt at c0
              rcases hx with hx | hx <;> rw [hx] at a0 <;> omega
          have fin : ∀ x, (x = 2 * z ∨ x = 2 * z + 1) → f x = some y' → ∃ j', j' < j ∧ (O ++ [z]).getD j' 0 = y' := by
            intro x hx fx
            have r := al x hx fx
            by_cases q : x = u
            · rw [q, hu] at fx
              injection fx with fx
              exact ⟨i, by omega, by rw [gdL i hi, ← hy]; exact fx⟩
            · rw [run x q] at r
              obtain ⟨j', j1, j2, j3⟩ := k6 x (by omega) r
              rw [j3] at fx
              injection fx with fx
              exact ⟨j', by omega, by rw [gdL j' j2]; exact fx⟩
          rcases hy' with q | q
          · exact fin _ (Or.inl rfl) q
          · exact fin _ (Or.inr rfl) q
        · rw [gdL j (by omega)] at hy'
          obtain ⟨j', j1, j2⟩ := k7 j (by omega) y' hy'
          exact ⟨j', j1, by rw [gdL j' (by omega)]; exact j2⟩
      · intro j hj
        rw [ll] at hj
        rw [g117]
        by_cases e : j = O.length
        · rw [e, gdE, z117]; omega
        · rw [gdL j (by omega), n117 _ (fun q => zO (q ▸ gd_memN (show j < O.length by omega)))]
          exact k8 j (by omega)
    · intro c k q1 q2
      rw [hs', up_ne (by omega), up_ne (by omega)]
      exact no9 c k (by omega) (by omega)
  · refine ⟨s9, [], ?_, ?_, ?_⟩
    · unfold brd_releaseUsers_9b
      rw [gr (by omega), if_neg (by omega), gr (by omega), if_neg (by omega), eT, gd_pos (by omega), gd_pos (by omega), Int.toNat_natCast, Int.toNat_natCast]
      have mx : mth_max (s 117 z) (s 117 y + 1) s = some (w, s) := by
        unfold mth_max
        rw [gr (by omega), gr (by omega)]
        by_cases q : s 117 z < s 117 y + 1
        · rw [if_pos q, show w = s 117 y + 1 by omega]
        · rw [if_neg q, show w = s 117 z by omega]
      rw [mx, bq]
      show gd (rg (up (up s 117 z w) 118 z (up s 117 z w 118 z - 1) 118 z)) _ = _
      rw [show up s 117 z w 118 z = s 118 z from up_ne (by omega), ← hs9]
      show gd (rg (s9 118 z)) (if s9 118 z = 0 then bd (brd_bringIn (z : Int) s9) _ else _) = _
      rw [gr (by rw [z118]; have := aw1_rg (f := f) (ru := ru) (u := 2 * z); have := aw1_rg (f := f) (ru := ru) (u := 2 * z + 1); unfold awt at p1; omega), if_neg (by omega)]
      unfold brd_releaseUsers_78
      rw [gd_pos (by omega), Int.toNat_natCast]
      rw [no9 120 u (by omega) (by omega)]
    · rw [List.append_nil, ← hru]
      refine ⟨⟨k1, k2, ?_, ?_⟩, ?_, ?_, k7, ?_⟩
      · rw [no9 108 16 (by omega) (by omega)]; exact k3
      · intro j hj
        rw [no9 116 j (by omega) (by omega)]
        exact k4 j hj
      · intro x x1 x2
        obtain ⟨m1, m2, m3⟩ := num s9 (fun _ => rfl) (fun _ => rfl) x x1 x2
        refine ⟨m1, ?_, m2, m3⟩
        by_cases e : x = z
        · rw [e]
          exact ⟨fun q => absurd q zO, fun q => absurd q c0⟩
        · rw [awo x e]
          exact (k5 x x1 x2).2.1
      · intro x x1 x2
        by_cases e : x = u
        · exact ⟨i, Nat.le_refl _, hi, by rw [e, ← hy]; exact hu⟩
        · rw [run x e] at x2
          exact k6 x x1 x2
      · intro j hj
        rw [n117 _ (fun q => zO (q ▸ gd_memN hj))]
        exact k8 j hj
    · exact fun c k q1 q2 => no9 c k (by omega) (by omega)
end CKh
