/-! chips: the board in both: what corresponds -/
section CKe
variable (n m nin : Nat) (g d ob wd : Nat → Nat)
/-- signal z of the class and bit b of the reference get the same -/
def SGr (t : iS) (z b : Int) : Prop := (z = 0 ∧ (b = -1 ∨ ∃ x : Nat, b = (x : Int) ∧ sW wd 0 nin ≤ x ∧ x < m ∧ t 223 x = 0)) ∨ (z = 1 ∧ b = -2) ∨ (∃ k i, k < nin ∧ i < wd k ∧ z = ((2 + 16 * k + i : Nat) : Int) ∧ b = ((sW wd 0 k + i : Nat) : Int)) ∨ ∃ x, x < n ∧ z = ((194 + x : Nat) : Int) ∧ b = ((ob x : Nat) : Int)
/-- the gates -/
def BSt (s t : iS) : Prop := (s 108 14 = (n : Int) ∧ t 121 161 = (n : Int) ∧ n ≤ 1500) ∧ (t 121 158 = (m : Int) ∧ m ≤ 40000) ∧ (nin ≤ 12 ∧ (∀ k, k < nin → 1 ≤ wd k ∧ wd k ≤ 16) ∧ sW wd 0 nin ≤ m ∧ ∀ x, x < sW wd 0 nin → t 223 x = 0) ∧ (∀ x, x < n → g x < n ∧ d (g x) = x ∧ d x < n ∧ g (d x) = x) ∧ ∀ x, x < n → ((t 224 (g x) = 0 ∧ t 225 (g x) + 2 = (ob x : Int) ∧ SGr n m nin ob wd t (s 114 x) (t 229 (g x))) ∨ (t 224 (g x) = 1 ∧ t 225 (g x) + 1 = (ob x : Int) ∧ s 114 x = -1)) ∧ (ob x < m ∧ 0 ≤ t 225 (g x) ∧ t 223 (ob x) = (g x : Int) + 1) ∧ SGr n m nin ob wd t (s 113 x) (t 228 (g x))
/-- the Nand that gives a signal, a bit -/
def cgv (s : iS) (z : Int) : Option Nat := if 194 ≤ z ∧ z < 194 + (n : Int) ∧ s 114 (z - 194).toNat ≠ -1 then some (z - 194).toNat else none
def rgv (t : iS) (b : Int) : Option Nat := if 0 ≤ b ∧ t 223 b.toNat ≠ 0 ∧ t 224 (t 223 b.toNat - 1).toNat = 0 then some (t 223 b.toNat - 1).toNat else none
/-- values; of the gates those that P says -/
def VAL (P : Nat → Prop) (s t : iS) : Prop := (s 112 0 = 0 ∧ s 112 1 = 1) ∧ (∀ k i, k < nin → i < wd k → s 112 (2 + 16 * k + i) = t 230 (sW wd 0 k + i)) ∧ (∀ x, sW wd 0 nin ≤ x → x < m → t 223 x = 0 → t 230 x = 0) ∧ (∀ x, x < n → P x → s 112 (194 + x) = t 230 (ob x)) ∧ ∀ k, k < 1694 → s 112 k = 0 ∨ s 112 k = 1
end CKe
section CKf
variable {n m nin : Nat} {g d ob wd : Nat → Nat} {s t : iS} {z b : Int} {O O' : List Nat} {lv lv' : Nat → Int} {P : Nat → Prop}
theorem sW_lt {f : Nat → Nat} {a i k N : Nat} (hk : k < N) (hi : i < f (a + k)) : sW f a k + i < sW f a N := by
  have e := sW_mono (f := f) (a := a) (N - (k + 1)) (k + 1)
  rw [show k + 1 + (N - (k + 1)) = N by omega, sW_s] at e
  omega
theorem SG_rg (hb : BSt n m nin g d ob wd s t) (h : SGr n m nin ob wd t z b) : (0 ≤ z ∧ z < 1694) ∧ -2 ≤ b ∧ b < 40000 := by
  obtain ⟨⟨-, -, b1⟩, ⟨-, b2⟩, ⟨b3, b4, b5, b6⟩, -, b7⟩ := hb
  rcases h with ⟨h1, h2 | ⟨x, h2, h3, h4, h5⟩⟩ | ⟨h1, h2⟩ | ⟨k, i, k1, i1, h1, h2⟩ | ⟨x, x1, h1, h2⟩
  · omega
  · omega
  · omega
  · have w := b4 k k1
    have := sW_lt (f := wd) (a := 0) k1 (by rw [Nat.zero_add]; exact i1)
    omega
  · have := (b7 x x1).2.1.1
    omega
theorem SG_gv (hb : BSt n m nin g d ob wd s t) (h : SGr n m nin ob wd t z b) : rgv t b = (cgv n s z).map g := by
  have rr := SG_rg hb h
  have hb0 := hb
  obtain ⟨⟨-, -, b1⟩, ⟨-, b2⟩, ⟨b3, b4, b5, b6⟩, -, b7⟩ := hb
  unfold rgv cgv
  rcases h with ⟨h1, h2 | ⟨x, h2, h3, h4, h5⟩⟩ | ⟨h1, h2⟩ | ⟨k, i, k1, i1, h1, h2⟩ | ⟨x, x1, h1, h2⟩
  · rw [if_neg (fun q => by omega), if_neg (fun q => by omega)]
    rfl
  · rw [if_neg (fun q => ?_), if_neg (fun q => by omega)]
    · rfl
    · rw [h2, Int.toNat_natCast] at q
      exact q.2.1 h5
  · rw [if_neg (fun q => by omega), if_neg (fun q => by omega)]
    rfl
  · have w := b4 k k1
    have l := sW_lt (f := wd) (a := 0) k1 (by rw [Nat.zero_add]; exact i1)
    rw [if_neg (fun q => ?_), if_neg (fun q => by omega)]
    · rfl
    · rw [h2, Int.toNat_natCast] at q
      exact q.2.1 (b6 _ l)
  · obtain ⟨c1, ⟨c2, c3, c4⟩, c5⟩ := b7 x x1
    have ez : (z - 194).toNat = x := by omega
    have eb : b.toNat = ob x := by omega
    rw [ez, eb, c4, show ((g x : Int) + 1 - 1).toNat = g x by omega]
    rcases c1 with ⟨q1, q2, q3⟩ | ⟨q1, q2, q3⟩
    · have := (SG_rg hb0 q3).1
      rw [if_pos ⟨by omega, by omega, q1⟩, if_pos ⟨by omega, by omega, by omega⟩]
      rfl
    · rw [if_neg (fun q => by omega), if_neg (fun q => q.2.2 q3)]
      rfl
theorem SG_val (hb : BSt n m nin g d ob wd s t) (hv : VAL n m nin ob wd P s t) (hP : ∀ x, z = ((194 + x : Nat) : Int) → x < n → P x) (h : SGr n m nin ob wd t z b) : s 112 z.toNat = rvl t b := by
  have rr := SG_rg hb h
  obtain ⟨⟨v1, v2⟩, v3, v4, v5, -⟩ := hv
  unfold rvl
  rcases h with ⟨h1, h2 | ⟨x, h2, h3, h4, h5⟩⟩ | ⟨h1, h2⟩ | ⟨k, i, k1, i1, h1, h2⟩ | ⟨x, x1, h1, h2⟩
  · rw [if_neg (by omega), if_pos (by omega), h1]
    exact v1
  · rw [if_neg (by omega), if_neg (by omega), h1, h2, Int.toNat_natCast, v4 x h3 h4 h5]
    exact v1
  · rw [if_pos h2, h1]
    exact v2
  · rw [if_neg (by omega), if_neg (by omega), h1, h2, Int.toNat_natCast, Int.toNat_natCast]
    exact v3 k i k1 i1
  · rw [if_neg (by omega), if_neg (by omega), h2, Int.toNat_natCast]
    rw [show z.toNat = 194 + x by omega]
    exact v5 x x1 (hP x h1 x1)
theorem BSt_of {s' t' : iS} (h : BSt n m nin g d ob wd s t) (hs : s' 108 14 = s 108 14 ∧ s' 113 = s 113 ∧ s' 114 = s 114) (ht : t' 121 161 = t 121 161 ∧ t' 121 158 = t 121 158 ∧ ∀ c, 223 ≤ c → c ≤ 229 → t' c = t c) : BSt n m nin g d ob wd s' t' := by
  unfold BSt SGr at h ⊢
  rw [hs.1, hs.2.1, hs.2.2, ht.1, ht.2.1, ht.2.2 223 (by omega) (by omega), ht.2.2 224 (by omega) (by omega), ht.2.2 225 (by omega) (by omega), ht.2.2 228 (by omega) (by omega), ht.2.2 229 (by omega) (by omega)]
  exact h
theorem cgv_at {y : Nat} (hy : y < n) (h : s 114 y ≠ -1) : cgv n s (194 + (y : Int)) = some y := by
  unfold cgv
  rw [show (194 + (y : Int) - 194).toNat = y by omega, if_pos ⟨by omega, by omega, h⟩]
/-- a Nand of the reference -/
theorem BS_nd (hb : BSt n m nin g d ob wd s t) {y : Nat} (hy : y < n) (h : t 224 y = 0) : (d y < n ∧ g (d y) = y) ∧ t 225 y + 2 = (ob (d y) : Int) ∧ s 114 (d y) ≠ -1 ∧ ob (d y) < m ∧ 0 ≤ t 225 y ∧ t 223 (ob (d y)) = (y : Int) + 1 ∧ SGr n m nin ob wd t (s 113 (d y)) (t 228 y) ∧ SGr n m nin ob wd t (s 114 (d y)) (t 229 y) ∧ rgv t (t 225 y + 2) = some y := by
  obtain ⟨-, -, e3, e4⟩ := hb.2.2.2.1 y hy
  obtain ⟨c1, ⟨c2, c3, c4⟩, c5⟩ := hb.2.2.2.2 (d y) e3
  rw [e4] at c1 c3 c4 c5
  rcases c1 with ⟨q1, q2, q3⟩ | ⟨q1, q2, q3⟩
  · refine ⟨⟨e3, e4⟩, q2, by have := (SG_rg hb q3).1; omega, c2, c3, c4, c5, q3, ?_⟩
    unfold rgv
    rw [q2, Int.toNat_natCast, c4, show ((y : Int) + 1 - 1).toNat = y by omega, if_pos ⟨by omega, by omega, q1⟩]
  · omega
theorem stl_ok (hb : BSt n m nin g d ob wd s t) (o1 : s 108 16 = (O.length : Int)) (o2 : ∀ i, i < O.length → s 116 i = ((O.getD i 0 : Nat) : Int)) (o1' : t 121 166 = (O'.length : Int)) (o2' : ∀ i, i < O'.length → t 227 i = ((O'.getD i 0 : Nat) : Int)) (hS : SRT n (fun x => s 114 x ≠ -1) (fun x => cgv n s (s 113 x)) (fun x => cgv n s (s 114 x)) O lv) (hS' : SRT n (fun x => t 224 x = 0) (fun x => rgv t (t 228 x)) (fun x => rgv t (t 229 x)) O' lv') (ha : ∀ x, x < n → s 114 x ≠ -1 → x ∈ O) (ha' : ∀ x, x < n → t 224 x = 0 → x ∈ O') (hv : VAL n m nin ob wd (fun x => s 114 x = -1) s t) : ∃ s' t', brd_settle s = some (0, s') ∧ m_settle t = some (0, t') ∧ VAL n m nin ob wd (fun _ => True) s' t' ∧ (∀ c k, c ≠ 112 → s' c k = s c k) ∧ ∀ c k, c ≠ 230 → t' c k = t c k := by
  have hb0 := hb
  obtain ⟨⟨-, -, b1⟩, ⟨-, b2⟩, ⟨b3, b4, b5, b6⟩, bg, b7⟩ := hb
  have hb := hb0
  obtain ⟨⟨v1, v2⟩, v3, v4, v5, v6⟩ := hv
  obtain ⟨a1, a2, a3, a4, a5⟩ := hS
  obtain ⟨r1, r2, r3, r4, r5⟩ := hS'
  have a2' : ∀ x ∈ O, x < n ∧ s 114 x ≠ -1 := a2
  have r2' : ∀ x ∈ O', x < n ∧ t 224 x = 0 := r2
  have a3' : ∀ i, i < O.length → ∀ y, (cgv n s (s 113 (O.getD i 0)) = some y ∨ cgv n s (s 114 (O.getD i 0)) = some y) → ∃ j, j < i ∧ O.getD j 0 = y := a3
  have r3' : ∀ i, i < O'.length → ∀ y, (rgv t (t 228 (O'.getD i 0)) = some y ∨ rgv t (t 229 (O'.getD i 0)) = some y) → ∃ j, j < i ∧ O'.getD j 0 = y := r3
  have lO : O.length ≤ 1500 := by
    have := nodup_len O (List.range n) a1 (fun x hx => List.mem_range.mpr (a2' x hx).1)
    rw [List.length_range] at this
    omega
  have lO' : O'.length ≤ 1500 := by
    have := nodup_len O' (List.range n) r1 (fun x hx => List.mem_range.mpr (r2' x hx).1)
    rw [List.length_range] at this
    omega
  have sgA : ∀ x, x < n → s 114 x ≠ -1 → SGr n m nin ob wd t (s 113 x) (t 228 (g x)) ∧ SGr n m nin ob wd t (s 114 x) (t 229 (g x)) := fun x x1 x2 => by
    obtain ⟨c1, -, c5⟩ := b7 x x1
    rcases c1 with ⟨-, -, q3⟩ | ⟨-, -, q3⟩
    · exact ⟨c5, q3⟩
    · exact absurd q3 x2
  obtain ⟨s', p1, p2, p3, p4⟩ := c_settle o1 lO o2 (fun x hx => by
    obtain ⟨x1, x2⟩ := a2' x hx
    obtain ⟨q1, q2⟩ := sgA x x1 x2
    exact ⟨by omega, (SG_rg hb q1).1, (SG_rg hb q2).1⟩) v6
  obtain ⟨t', q1, q2, q3⟩ := r_settle o1' lO' o2' (fun x hx => by
    obtain ⟨x1, x2⟩ := r2' x hx
    obtain ⟨-, c1, -, c2, c3, -, c4, c5, -⟩ := BS_nd hb x1 x2
    exact ⟨by omega, (SG_rg hb c4).2, (SG_rg hb c5).2, c3, by omega⟩)
  refine ⟨s', t', p1, q1, ?_, p4, q3⟩
  -- what no Nand gives stays
  have hC : ∀ k : Nat, k < 1694 → cgv n s (k : Int) = none → s' 112 k = s 112 k := by
    intro k hk hn
    rw [p2 k hk, stN_0 (fun j hj => ?_)]
    · rw [Int.toNat_natCast]
    · intro z
      obtain ⟨y1, y2⟩ := a2' _ (gd_memN hj)
      have z' : (k : Int) = 194 + ((O.getD j 0 : Nat) : Int) := z
      rw [z', cgv_at y1 y2] at hn
      cases hn
  have hR : ∀ z : Int, -2 ≤ z → z < 40000 → rgv t z = none → rvl t' z = rvl t z := by
    intro z z1 z2 hn
    rw [q2 z z1 z2, stN_0 (fun j hj => ?_)]
    intro e
    obtain ⟨y1, y2⟩ := r2' _ (gd_memN hj)
    have e' : z = t 225 (O'.getD j 0) + 2 := e
    rw [e', (BS_nd hb y1 y2).2.2.2.2.2.2.2.2] at hn
    cases hn
  have hR' : ∀ x : Nat, x < 40000 → rgv t (x : Int) = none → t' 230 x = t 230 x := by
    intro x hx hn
    have := hR (x : Int) (by omega) (by omega) hn
    unfold rvl at this
    rw [if_neg (by omega), if_neg (by omega), if_neg (by omega), if_neg (by omega), Int.toNat_natCast] at this
    exact this
  have rg0 : ∀ x : Nat, t 223 x = 0 → rgv t (x : Int) = none := fun x hx => by
    unfold rgv
    rw [Int.toNat_natCast, if_neg (fun q => q.2.1 hx)]
  have cg0 : ∀ x : Nat, x < 194 → cgv n s (x : Int) = none := fun x hx => by
    unfold cgv
    rw [if_neg (fun q => by omega)]
  have cgd : ∀ x, x < n → s 114 x = -1 → cgv n s ((194 + x : Nat) : Int) = none := fun x hx e => by
    unfold cgv
    rw [show (((194 + x : Nat) : Int) - 194).toNat = x by omega, if_neg (fun q => q.2.2 e)]
  have rgd : ∀ x, x < n → s 114 x = -1 → rgv t ((ob x : Nat) : Int) = none := fun x hx e => by
    obtain ⟨c1, ⟨c2, c3, c4⟩, c5⟩ := b7 x hx
    unfold rgv
    rw [Int.toNat_natCast, c4, show ((g x : Int) + 1 - 1).toNat = g x by omega, if_neg (fun q => ?_)]
    rcases c1 with ⟨-, -, y⟩ | ⟨y, -, -⟩
    · have := (SG_rg hb y).1
      omega
    · omega
  have e113 : s' 113 = s 113 := funext fun k => p4 113 k (by omega)
  have e114 : s' 114 = s 114 := funext fun k => p4 114 k (by omega)
  have e223 : t' 223 = t 223 := funext fun k => q3 223 k (by omega)
  have hb' : BSt n m nin g d ob wd s' t' := BSt_of hb ⟨p4 108 14 (by omega), e113, e114⟩ ⟨q3 121 161 (by omega), q3 121 158 (by omega), fun c c1 c2 => funext fun k => q3 c k (by omega)⟩
  have base : ∀ P : Nat → Prop, (∀ x, x < n → P x → s' 112 (194 + x) = t' 230 (ob x)) → VAL n m nin ob wd P s' t' := by
    intro P hP
    refine ⟨⟨by rw [hC 0 (by omega) (cg0 0 (by omega))]; exact v1, by rw [hC 1 (by omega) (cg0 1 (by omega))]; exact v2⟩, ?_, ?_, hP, p3⟩
    · intro k i k1 i1
      have w := b4 k k1
      have l := sW_lt (f := wd) (a := 0) k1 (by rw [Nat.zero_add]; exact i1)
      rw [hC (2 + 16 * k + i) (by omega) (cg0 _ (by omega)), hR' (sW wd 0 k + i) (by omega) (rg0 _ (b6 _ l))]
      exact v3 k i k1 i1
    · intro x x1 x2 x3
      rw [e223] at x3
      rw [hR' x (by omega) (rg0 _ x3)]
      exact v4 x x1 x2 x3
  have dff : ∀ x, x < n → s 114 x = -1 → s' 112 (194 + x) = t' 230 (ob x) := by
    intro x x1 x2
    have o := (b7 x x1).2.1.1
    rw [hC (194 + x) (by omega) (cgd x x1 x2), hR' (ob x) (by omega) (rgd x x1 x2)]
    exact v5 x x1 x2
  have main : ∀ k i, i < k → i < O.length → s' 112 (194 + O.getD i 0) = t' 230 (ob (O.getD i 0)) := by
    intro k
    induction k with
    | zero => intro i h _; exact absurd h (Nat.not_lt_zero i)
    | succ k ih =>
      intro i hik hi
      obtain ⟨x, hx⟩ : ∃ x, x = O.getD i 0 := ⟨_, rfl⟩
      have hxO : x ∈ O := hx ▸ gd_memN hi
      obtain ⟨x1, x2⟩ := a2' x hxO
      obtain ⟨sa, sb⟩ := sgA x x1 x2
      have hV : VAL n m nin ob wd (fun y => s 114 y = -1 ∨ ∃ j, j < i ∧ O.getD j 0 = y) s' t' := base _ (fun y y1 y2 => by
        rcases y2 with y2 | ⟨j, j1, j2⟩
        · exact dff y y1 y2
        · rw [← j2]
          exact ih j (by omega) (by omega))
      have gvP : ∀ z : Int, (z = s 113 x ∨ z = s 114 x) → ∀ y, z = ((194 + y : Nat) : Int) → y < n → s 114 y = -1 ∨ ∃ j, j < i ∧ O.getD j 0 = y := by
        intro z hz y e hy
        by_cases c : s 114 y = -1
        · exact Or.inl c
        · right
          have cg : cgv n s z = some y := by
            rw [e, show (((194 + y : Nat) : Int)) = 194 + (y : Int) by omega]
            exact cgv_at hy c
          refine a3' i hi y ?_
          rw [← hx]
          rcases hz with hz | hz
          · exact Or.inl (by rw [← hz]; exact cg)
          · exact Or.inr (by rw [← hz]; exact cg)
      have sga' : SGr n m nin ob wd t' (s 113 x) (t 228 (g x)) := by unfold SGr at sa ⊢; rw [e223]; exact sa
      have sgb' : SGr n m nin ob wd t' (s 114 x) (t 229 (g x)) := by unfold SGr at sb ⊢; rw [e223]; exact sb
      have va := SG_val hb' hV (gvP _ (Or.inl rfl)) sga'
      have vb := SG_val hb' hV (gvP _ (Or.inr rfl)) sgb'
      have ra := (SG_rg hb sa)
      have rb := (SG_rg hb sb)
      have fc := stN_fix (O := O) (ou := fun x => 194 + (x : Int)) (a := s 113) (b := s 114) (v := fun z => s 112 z.toNat) (m := O.length) (by
        intro i j ij jl e
        have e' : 194 + ((O.getD i 0 : Nat) : Int) = 194 + ((O.getD j 0 : Nat) : Int) := e
        have := nd_inj a1 (show i < O.length by omega) jl (by omega)
        omega) (by
        intro i j ij jl
        obtain ⟨y1, y2⟩ := a2' _ (gd_memN jl)
        constructor
        · intro e
          have e' : s 113 (O.getD i 0) = 194 + ((O.getD j 0 : Nat) : Int) := e
          obtain ⟨j', j1, j2⟩ := a3' i (by omega) (O.getD j 0) (Or.inl (by rw [e']; exact cgv_at y1 y2))
          have := nd_inj a1 (show j' < O.length by omega) jl j2
          omega
        · intro e
          have e' : s 114 (O.getD i 0) = 194 + ((O.getD j 0 : Nat) : Int) := e
          obtain ⟨j', j1, j2⟩ := a3' i (by omega) (O.getD j 0) (Or.inr (by rw [e']; exact cgv_at y1 y2))
          have := nd_inj a1 (show j' < O.length by omega) jl j2
          omega) hi
      rw [← hx] at fc ⊢
      have ou1 := p2 (194 + x) (by omega)
      rw [show ((194 + x : Nat) : Int) = 194 + (x : Int) by omega, fc] at ou1
      have pa := p2 (s 113 x).toNat (by omega)
      rw [Int.toNat_of_nonneg ra.1.1] at pa
      have pb := p2 (s 114 x).toNat (by omega)
      rw [Int.toNat_of_nonneg rb.1.1] at pb
      rw [ou1, ← pa, ← pb, va, vb]
      -- the reference's
      obtain ⟨g1, g2, g3, g4⟩ := bg x x1
      have hN : t 224 (g x) = 0 := by
        rcases (b7 x x1).1 with ⟨y, -, -⟩ | ⟨-, -, y⟩
        · exact y
        · exact absurd y x2
      obtain ⟨i', i1, i2⟩ := mem_gdN (ha' (g x) g1 hN)
      obtain ⟨-, n1, -, n2, n3, -, -, -, n4⟩ := BS_nd hb g1 hN
      rw [g2] at n1 n2
      have fr := stN_fix (O := O') (ou := fun x => t 225 x + 2) (a := t 228) (b := t 229) (v := rvl t) (m := O'.length) (by
        intro i j ij jl e
        have e' : t 225 (O'.getD i 0) + 2 = t 225 (O'.getD j 0) + 2 := e
        obtain ⟨y1, y2⟩ := r2' _ (gd_memN jl)
        obtain ⟨z1, z2⟩ := r2' _ (gd_memN (show i < O'.length by omega))
        have k1 := (BS_nd hb y1 y2).2.2.2.2.2.2.2.2
        have k2 := (BS_nd hb z1 z2).2.2.2.2.2.2.2.2
        rw [e', k1] at k2
        injection k2 with k2
        have := nd_inj r1 (show i < O'.length by omega) jl k2.symm
        omega) (by
        intro i j ij jl
        obtain ⟨y1, y2⟩ := r2' _ (gd_memN jl)
        have k1 := (BS_nd hb y1 y2).2.2.2.2.2.2.2.2
        constructor
        · intro e
          have e' : t 228 (O'.getD i 0) = t 225 (O'.getD j 0) + 2 := e
          obtain ⟨j', j1, j2⟩ := r3' i (by omega) (O'.getD j 0) (Or.inl (by rw [e']; exact k1))
          have := nd_inj r1 (show j' < O'.length by omega) jl j2
          omega
        · intro e
          have e' : t 229 (O'.getD i 0) = t 225 (O'.getD j 0) + 2 := e
          obtain ⟨j', j1, j2⟩ := r3' i (by omega) (O'.getD j 0) (Or.inr (by rw [e']; exact k1))
          have := nd_inj r1 (show j' < O'.length by omega) jl j2
          omega) i1
      rw [i2] at fr
      have ro := q2 (t 225 (g x) + 2) (by omega) (by omega)
      have fr' : stN O' (fun x => t 225 x + 2) (t 228) (t 229) (rvl t) O'.length (t 225 (g x) + 2) = _ := fr
      rw [fr', ← q2 _ ra.2.1 ra.2.2, ← q2 _ rb.2.1 rb.2.2] at ro
      rw [← ro, n1]
      unfold rvl
      rw [if_neg (by omega), if_neg (by omega), Int.toNat_natCast]
  refine base _ (fun x x1 _ => ?_)
  by_cases c : s 114 x = -1
  · exact dff x x1 c
  · obtain ⟨i, i1, i2⟩ := mem_gdN (ha x x1 c)
    rw [← i2]
    exact main (i + 1) i (by omega) i1
end CKf
