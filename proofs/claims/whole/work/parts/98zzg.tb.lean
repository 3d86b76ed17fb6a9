/-! the second reading: notes and commands of the items of a sub -/
def fvW (F : Nat → Int) (P : Nat → Nat) (t0 : iS) (wl : List wrec) (cv j : Nat) : Int := fvT (vNs F P t0 wl) cv (nmT F P t0 j)
def wAt (wl : List wrec) (i : Int) : wrec := wl.getD i.toNat (0, 0, 0, 0, 0, 0, 0)
/-- what is told of a variable -/
def ntV (F : Nat → Int) (P : Nat → Nat) (t0 : iS) (wl : List wrec) (cv : Nat) (so : Int) (j : Nat) : List Nat := if fvW F P t0 wl cv j = -1 then [16 * j + 4] else if so = 2 ∧ sgT (wAt wl (fvW F P t0 wl cv j)) = 4 then [16 * j + 6] else []
def ntI (F : Nat → Int) (P : Nat → Nat) (s0 t0 : iS) (Kf : List Nat) (Uf : List urec) (pa : Nat → Int) (wl : List wrec) (cv c : Nat) (so : Int) (r : itm) : List Nat :=
  if r.1 = 3 then (if so = 2 then [16 * r.2.2.2.toNat + 6] else [])
  else if r.1 = 4 ∨ r.1 = 13 then ntV F P t0 wl cv so r.2.2.2.toNat
  else if r.1 = 9 then (if r.2.1 = -1 then (if so = 2 then [16 * r.2.2.1.toNat + 6] else []) else if fvW F P t0 wl cv r.2.1.toNat = -1 then [] else ntV F P t0 wl cv so r.2.1.toNat)
  else if r.1 = 10 then (if r.2.1 = -1 then ntC F P t0 Kf Uf pa (8 + (c : Int)) r.2.2.1.toNat 1 r.2.2.2.toNat else if fvW F P t0 wl cv r.2.1.toNat = -1 then (if fcK F P t0 Kf r.2.1.toNat = -1 then [16 * r.2.1.toNat + 4] else ntC F P t0 Kf Uf pa (fcK F P t0 Kf r.2.1.toNat) r.2.2.1.toNat 0 r.2.2.2.toNat) else ntC F P t0 Kf Uf pa (tyT F P s0 t0 Kf (wAt wl (fvW F P t0 wl cv r.2.1.toNat))) r.2.2.1.toNat 1 r.2.2.2.toNat)
  else if r.1 = 11 ∧ s0 9 r.2.2.2.toNat = 271 then ntV F P t0 wl cv so (r.2.2.2.toNat + 1)
  else []
/-- a command without its mark -/
abbrev crc := Int × Int × Int × Int
def emV (F : Nat → Int) (P : Nat → Nat) (t0 : iS) (wl : List wrec) (cv : Nat) (so kd : Int) (j : Nat) : List crc := if fvW F P t0 wl cv j = -1 then [] else [(kd, sgT (wAt wl (fvW F P t0 wl cv j)), nuT so (wAt wl (fvW F P t0 wl cv j)), (wAt wl (fvW F P t0 wl cv j)).2.2.2.2.2.2)]
def strC (F : Nat → Int) (p : Nat) : Nat → Nat → List crc
  | _, 0 => []
  | i, k + 1 => (0, 0, F (p + i), 0) :: (15, 304, 2, 16) :: strC F p (i + 1) k
def opC (c : Int) : crc := if c = 38 then (5, 0, 0, 0) else if c = 42 then (15, 3, 2, 3) else if c = 43 then (2, 0, 0, 0) else if c = 45 then (3, 0, 0, 0) else if c = 47 then (15, 4, 2, 4) else if c = 60 then (9, 0, 0, 0) else if c = 62 then (10, 0, 0, 0) else if c = 124 then (6, 0, 0, 0) else (8, 0, 0, 0)
def cmC (F : Nat → Int) (P : Nat → Nat) (t0 : iS) (Kf : List Nat) (Uf : List urec) (ow : Int) (j : Nat) (k : Int) : crc := (15, nmbT Kf Uf ow (fsbT F P t0 Kf Uf ow j), k, fsbT F P t0 Kf Uf ow j)
def emI (F : Nat → Int) (P : Nat → Nat) (s0 t0 : iS) (Kf : List Nat) (Uf : List urec) (wl : List wrec) (cv c : Nat) (so : Int) (r : itm) : List crc :=
  if r.1 = 0 then (if r.2.1 = -1 then [(0, 0, 0, 0), (7, 0, 0, 0)] else [(0, 0, r.2.1, 0)])
  else if r.1 = 1 then (0, 0, s0 11 r.2.2.2.toNat, 0) :: (15, 300, 1, 12) :: strC F (P r.2.2.2.toNat) 1 (s0 11 r.2.2.2.toNat).toNat
  else if r.1 = 3 then [(0, 6, 0, 0)]
  else if r.1 = 4 then emV F P t0 wl cv so 0 r.2.2.2.toNat
  else if r.1 = 5 then [(2, 0, 0, 0), (1, 6, 1, 0), (0, 5, 0, 0)]
  else if r.1 = 6 then [opC r.2.1]
  else if r.1 = 7 then [(4, 0, 0, 0)]
  else if r.1 = 8 then [(7, 0, 0, 0)]
  else if r.1 = 9 then (if r.2.1 = -1 then [(0, 6, 0, 0)] else emV F P t0 wl cv so 0 r.2.1.toNat)
  else if r.1 = 10 then (if r.2.1 = -1 then [cmC F P t0 Kf Uf (8 + (c : Int)) r.2.2.1.toNat (r.2.2.2 + 1)] else if fvW F P t0 wl cv r.2.1.toNat = -1 then (if fcK F P t0 Kf r.2.1.toNat = -1 then [] else [cmC F P t0 Kf Uf (fcK F P t0 Kf r.2.1.toNat) r.2.2.1.toNat (r.2.2.2 + 0)]) else [cmC F P t0 Kf Uf (tyT F P s0 t0 Kf (wAt wl (fvW F P t0 wl cv r.2.1.toNat))) r.2.2.1.toNat (r.2.2.2 + 1)])
  else if r.1 = 13 then emV F P t0 wl cv so 1 r.2.2.2.toNat
  else if r.1 = 14 then [(1, 7, 0, 0), (1, 6, 1, 0), (0, 7, 0, 0), (1, 5, 0, 0)]
  else if r.1 = 15 then [(0, 0, 0, 0), (8, 0, 0, 0), (13, r.2.2.1, 0, -9)]
  else if r.1 = 16 then [(12, r.2.2.1, 0, -9)]
  else if r.1 = 18 then [(16, 0, 0, 0)]
  else if r.1 = 19 then [(1, 7, 0, 0)]
  else if r.1 = 20 then [(11, r.2.1, 0, 0)]
  else []
/-- commands are put down; the first gets the mark that waits -/
def emA : List crec × Int → List crc → List crec × Int
  | a, [] => a
  | a, x :: xs => emA (a.1 ++ [(x.1, x.2.1, x.2.2.1, x.2.2.2, a.2)], -1) xs
def emS (P : Nat → Nat) (em : itm → List crc) (a : List crec × Int) (r : itm) : List crec × Int := if r.1 = 11 ∨ r.1 = 17 then (a.1, (P r.2.2.2.toNat : Int)) else emA a (em r)
/-- what stands while a body is read a second time -/
def X2B (F : Nat → Int) (P : Nat → Nat) (s0 t0 : iS) (N : Nat) (Kf : List Nat) (Uf : List urec) (pa : Nat → Int) (wl : List wrec) (cv c : Nat) (so : Int) (s : iS) : Prop := SBo s ∧ s 22 4 = 1 ∧ s 23 13 = 256 + so ∧ s 23 11 = 8 + (c : Int) ∧ X2T F P s0 t0 N Kf Uf pa s ∧ X2V F P s0 t0 Kf wl cv so s
def R2 (F : Nat → Int) (P : Nat → Nat) (s0 t0 : iS) (N : Nat) (Kf : List Nat) (Uf : List urec) (pa : Nat → Int) (wl : List wrec) (cv c : Nat) (so : Int) (n0 : List Nat) (a0 : List crec × Int) (l : List itm) (s : iS) : Prop :=
  X2B F P s0 t0 N Kf Uf pa wl cv c so s ∧ BLc (n0 ++ l.flatMap (ntI F P s0 t0 Kf Uf pa wl cv c so)) s ∧ EMc (l.foldl (emS P (emI F P s0 t0 Kf Uf wl cv c so)) a0).1 (l.foldl (emS P (emI F P s0 t0 Kf Uf wl cv c so)) a0).2 s
section R2c
variable {F : Nat → Int} {n N : Nat} {P : Nat → Nat} {s0 t0 s s1 s' : iS} {j m : Nat} {Kf : List Nat} {Uf : List urec} {pa : Nat → Int} {wl : List wrec} {cv c : Nat} {so ow obj : Int} {L n0 : List Nat} {a a0 : List crec × Int} {l : List itm} {r : itm}
theorem X2B_of (h : X2B F P s0 t0 N Kf Uf pa wl cv c so s) (hf : ∀ c k, 23 ≤ c ∧ c ≤ 40 ∨ c = 22 ∧ k = 4 → s' c k = s c k) : X2B F P s0 t0 N Kf Uf pa wl cv c so s' := by
  obtain ⟨h1, h2, h3, h4, h5, h6⟩ := h
  exact ⟨SBo_of h1 (fun c k q => hf c k (by omega)), by rw [hf 22 4 (by omega)]; exact h2, by rw [hf 23 13 (by omega)]; exact h3, by rw [hf 23 11 (by omega)]; exact h4, X2T_of h5 (fun c k q => hf c k (by omega)), X2V_of h6 (fun c k q => hf c k (by omega))⟩
theorem R2_step (h : R2 F P s0 t0 N Kf Uf pa wl cv c so n0 a0 l s) (hm : MD s s1) (hb : BLc (n0 ++ l.flatMap (ntI F P s0 t0 Kf Uf pa wl cv c so) ++ ntI F P s0 t0 Kf Uf pa wl cv c so r) s1) (he : EMc (emS P (emI F P s0 t0 Kf Uf wl cv c so) (l.foldl (emS P (emI F P s0 t0 Kf Uf wl cv c so)) a0) r).1 (emS P (emI F P s0 t0 Kf Uf wl cv c so) (l.foldl (emS P (emI F P s0 t0 Kf Uf wl cv c so)) a0) r).2 s1) : R2 F P s0 t0 N Kf Uf pa wl cv c so n0 a0 (l ++ [r]) s1 := by
  refine ⟨X2B_of h.1 (fun c k q => MD_at hm (by omega) (by omega)), ?_, ?_⟩
  · rw [List.flatMap_append, ← List.append_assoc, List.flatMap_singleton]
    exact hb
  · rw [List.foldl_append]
    exact he
/-- commands, one after the other -/
theorem ema1 {x y z tg : Int} (h : EMc a.1 a.2 s) (ht : tg = 0 ∨ tg = -9) (ho : (0 ≤ x ∧ x < 20) ∧ (-100000 ≤ y ∧ y ≤ 100000) ∧ (11 ≤ x → x ≤ 13 → 0 ≤ y ∧ y < 1000)) : ∃ s1, prg_add x y z s = some (0, s1) ∧ EMc (emA a [(x, y, z, tg)]).1 (emA a [(x, y, z, tg)]).2 s1 ∧ (∀ c' k, ¬ (15 ≤ c' ∧ c' ≤ 19) → ¬ (c' = 14 ∧ (k = 8 ∨ k = 12)) → s1 c' k = s c' k) := em_add h ht ho
theorem ema2 {x y z w : Int} (h : EMc a.1 a.2 s) (ho : (0 ≤ x ∧ x < 20) ∧ (-100000 ≤ y ∧ y ≤ 100000) ∧ (11 ≤ x → x ≤ 13 → 0 ≤ y ∧ y < 1000)) (hw : -100000 ≤ w ∧ w ≤ 100000) : ∃ s1 s2, prg_add x y z s = some (0, s1) ∧ prg_aim w s1 = some (0, s2) ∧ EMc (emA a [(x, y, z, w)]).1 (emA a [(x, y, z, w)]).2 s2 ∧ (∀ c' k, ¬ (15 ≤ c' ∧ c' ≤ 19) → ¬ (c' = 14 ∧ (k = 8 ∨ k = 12)) → s2 c' k = s c' k) ∧ (∀ c' k, ¬ (15 ≤ c' ∧ c' ≤ 19) → ¬ (c' = 14 ∧ (k = 8 ∨ k = 12)) → s1 c' k = s c' k) := by
  obtain ⟨s1, h1, h2, h3⟩ := em_add (a := x) (b := y) (c := z) h (Or.inl rfl) ho
  obtain ⟨s2, h4, h5, h6⟩ := em_aim (y := w) h2 hw
  exact ⟨s1, s2, h1, h4, h5, fun c' k z1 z2 => by rw [h6 c' k z1 z2, h3 c' k z1 z2], h3⟩
theorem emA_app (xs ys : List crc) : ∀ a, emA a (xs ++ ys) = emA (emA a xs) ys := by
  induction xs with
  | nil => intro a; rfl
  | cons x xs ih => intro a; exact ih _
/-- the bytes of a string -/
theorem str2 (h : TKR 0 F n N P s0 t0) (hF : tkC F n s0) (hj : j < N) (hk : s0 9 j = 5) {v : Nat} (hv : s0 11 j = (v : Int)) : ∀ (k i : Nat) (s : iS) (a : List crec × Int), i + k = v + 1 → 1 ≤ i → SC s0 s → s 2 12 = (j : Int) → EMc a.1 a.2 s → ∃ s4, trl_readStringTerm_78 (s0 11 j) (i : Int) s = some (0, up s4 2 12 ((j + 1 : Nat) : Int)) ∧ EMc (emA a (strC F (P j) i k)).1 (emA a (strC F (P j) i k)).2 s4 ∧ (∀ c' k, ¬ (15 ≤ c' ∧ c' ≤ 19) → ¬ (c' = 14 ∧ (k = 8 ∨ k = 12)) → s4 c' k = s c' k) := by
  have hN2 := N1001 h
  obtain ⟨v', v1, v2, v3, v4, v5, v6⟩ := tkS h hj hk
  have hn : n ≤ 4000 := hF.2.1
  have vv : v = v' := by omega
  intro k
  induction k with
  | zero =>
    intro i s a hi h1 hs hp he
    refine ⟨s, ?_, he, fun _ _ _ _ => rfl⟩
    unfold trl_readStringTerm_78
    rw [lp_end (f := fun l : Int × iS => trl_readStringTerm_78b (s0 11 j) (l.1) (l.2)) (l := ((i : Int), s)) (e := s) (by
      show trl_readStringTerm_78b (s0 11 j) (i : Int) s = _
      unfold trl_readStringTerm_78b
      rw [gr (by omega), gr (by omega), if_pos (by omega)]), bn]
    unfold trl_readStringTerm_143
    rw [lt_eq, hp]
    rfl
  | succ k ih =>
    intro i s a hi h1 hs hp he
    have hF2 : tkC F n s := tkC_of hs.2.2.2.2.2.2.2.1 hs.1 hF
    obtain ⟨s1, b1, b2, b3⟩ := ema1 (x := 0) (y := 0) (z := F (P j + i)) (tg := 0) he (Or.inl rfl) (by omega)
    obtain ⟨s2, s3, d1, d2, d3, d4, _⟩ := ema2 (x := 15) (y := 304) (z := 2) (w := 16) b2 (by omega) (by omega)
    have fr : ∀ c' k, ¬ (15 ≤ c' ∧ c' ≤ 19) → ¬ (c' = 14 ∧ (k = 8 ∨ k = 12)) → s3 c' k = s c' k := fun c' k z1 z2 => by rw [d4 c' k z1 z2, b3 c' k z1 z2]
    have hs3 : SC s0 s3 := SC_md (L := [15, 16, 17, 18, 19]) (G := [(14, 8), (14, 12)]) rfl (fun c' k z1 z2 => fr c' k (fun q => z1 (by simp only [List.mem_cons, List.not_mem_nil, or_false]; omega)) (fun q => z2 (by simp only [List.mem_cons, List.not_mem_nil, or_false, Prod.mk.injEq]; omega))) hs
    obtain ⟨s4, e1, e2, e3⟩ := ih (i + 1) s3 _ (by omega) (by omega) hs3 (by rw [fr 2 12 (by omega) (by omega)]; exact hp) d3
    refine ⟨s4, ?_, e2, fun c' k z1 z2 => by rw [e3 c' k z1 z2, fr c' k z1 z2]⟩
    unfold trl_readStringTerm_78 at e1 ⊢
    rw [lp_next (f := fun l : Int × iS => trl_readStringTerm_78b (s0 11 j) (l.1) (l.2)) (l := ((i : Int), s)) (l' := (((i + 1 : Nat) : Int), s3)) (by
      show trl_readStringTerm_78b (s0 11 j) (i : Int) s = _
      unfold trl_readStringTerm_78b
      rw [gr (by omega), gr (by omega), if_neg (by omega), hp, cPo h hs hj, bq, show (P j : Int) + (i : Int) = ((P j + i : Nat) : Int) by omega, tba hF2 (by omega), cAt_lt (by omega), bq, b1, bq, d1, bq, d2, bq]
      rfl)]
    exact e1
end R2c
