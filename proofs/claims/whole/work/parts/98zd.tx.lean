/-! the text: both sides live -/
/-- what one variable is told to be: class, sub, sort, type, name, number, place -/
abbrev wrec := Int × Int × Int × Int × Nat × Int × Int
/-- what one sub is told to be: class, sort, name, type -/
abbrev urec := Int × Int × Nat × Int
abbrev TXP := Nat → List Nat → List urec → List wrec → List Nat → List (List itm) → iS → Prop
/-- how many statics; statics of a class; fields of a class; parameters, variables of a sub -/
def nwS (W : List wrec) : Nat := W.countP (fun r => r.2.2.1 == 0)
def nwC (c : Int) (W : List wrec) : Nat := W.countP (fun r => r.2.2.1 == 0 && r.1 == c)
def nwF (c : Int) (W : List wrec) : Nat := W.countP (fun r => r.2.2.1 == 1 && r.1 == c)
def nwP (u : Int) (W : List wrec) : Nat := W.countP (fun r => r.2.2.1 == 2 && r.2.1 == u)
def nwV (u : Int) (W : List wrec) : Nat := W.countP (fun r => r.2.2.1 == 3 && r.2.1 == u)
/-- the count that the class keeps -/
def nwW (v : Int) (K : List Nat) (U : List urec) (W : List wrec) : Nat := if v = 1 then nwP ((U.length : Int) - 1) W else if v = 2 then nwV ((U.length : Int) - 1) W else if v = 3 then nwS W else nwF ((K.length : Int) - 1) W
/-- what is told by one declaration -/
def wNew (v : Int) (K : List Nat) (U : List urec) (W : List wrec) (y : Int) (j : Nat) : wrec := ((K.length : Int) - 1, if v = 1 ∨ v = 2 then (U.length : Int) - 1 else -1, if v = 1 then 2 else if v = 2 then 3 else if v = 3 then 0 else 1, y, j, if v = 3 then (nwC ((K.length : Int) - 1) W : Int) else (nwW v K U W : Int), (nwW v K U W : Int))
/-- both are at the same token -/
def LXT (s0 t0 : iS) (N : Nat) (s t : iS) (p o w I C : Nat) : Prop := SC s0 s ∧ SR t0 t ∧ s 2 12 = (p : Int) ∧ t 121 10 = (p : Int) ∧ p < N ∧ t 121 11 = 0 ∧ s 22 5 = (o : Int) ∧ t 121 48 = (o : Int) ∧ o ≤ 25 ∧ s 22 6 = (w : Int) ∧ t 121 49 = (w : Int) ∧ w ≤ 300 ∧ t 121 33 = (I : Int) ∧ t 121 39 = (C : Int) ∧ I ≤ 3 * p ∧ (C = 0 ∨ C + 5 ≤ p)
/-- the class's cells of the names stand, but for parameters of the text's own subs -/
def ZK (s s' : iS) : Prop := ∀ c k, 23 ≤ c → c ≤ 40 → ¬ (c = 31 ∧ 40 ≤ k) → s' c k = s c k
def MX (s0 s s' : iS) : Prop := SC s0 s' ∧ s' 2 12 = s 2 12 ∧ s' 22 5 = s 22 5 ∧ s' 22 6 = s 22 6
/-- what the class does beside reading the text -/
def RHT (T : TXP) (TV : Int → Int → Prop) (Z : iS → Prop) (b : Int) (s0 : iS) (N : Nat) (P : Nat → Nat) : Prop :=
  (∀ g K U W Y A s x, T g K U W Y A s → T g K U W Y A (up s 2 12 x) ∧ T g K U W Y A (up s 22 5 x)) ∧
  (∀ g K U W Y A s, T g K U W Y A s → s 22 4 = b ∧ SBo s ∧ (b = 0 → s 2 13 = 0 ∧ s 14 7 = 0) ∧ Z s) ∧
  (∀ s, Z s → TD s) ∧ (∀ s s', Z s → ZK s s' → Z s') ∧
  (∀ g K U W Y A s (j : Nat), T g K U W Y A s → SC s0 s → j < N → s0 9 j = 3 → s 2 12 = (j : Int) → ∃ r s1, (∀ G : Int → iS → Option (Int × iS), bd (trl_findClass (j : Int) s) (fun r8 s8 => gd (rg (s8 22 4)) (if (s8 22 4) = 0 then G r8 s8 else gd (rg r8) (if r8 = (-1) then bd (tok_blame 4 (s8 2 12) s8) (fun _ s13 => G r8 s13) else G r8 s8))) = G r s1) ∧ TV (j : Int) r ∧ T g K U W (Y ++ [j]) A s1 ∧ MX s0 s s1) ∧
  (∀ j : Nat, (s0 9 j = 263 ∨ s0 9 j = 264 ∨ s0 9 j = 265) → TV (j : Int) (-1)) ∧
  (∀ g K U W Y A s (j : Nat) (v : Int) y r, T g K U W Y A s → SC s0 s → j < N → s0 9 j = 3 → s 2 12 = (j : Int) → TV y r → (g = 0 ∧ (v = 3 ∨ v = 4) ∨ g = 1 ∧ v = 1 ∨ g = 2 ∧ v = 2) → s 40 v.toNat = (nwW v K U W : Int) ∧ (nwW v K U W < 12 → ∃ s1, bd (scp_firstRival v s) (fun r7 s7 => gd (rg (s7 22 4)) (if (s7 22 4) = 0 then trl_declare_103 v r s7 else bd (tok_findIn 33 34 35 48 (s7 2 12) r7 48 s7) (fun r10 s10 => gd (rg r10) (if r10 = (-1) then trl_declare_103 v r s10 else bd (tok_blame 3 (s10 2 12) s10) (fun _ s13 => trl_declare_103 v r s13))))) = some (0, up s1 2 12 ((j + 1 : Nat) : Int)) ∧ T g K U (W ++ [wNew v K U W y j]) Y A s1 ∧ MX s0 s s1)) ∧
  (∀ g K U W Y A s (j : Nat), T g K U W Y A s → SC s0 s → j < N → s0 9 j = 3 → s 2 12 = (j : Int) → (g = 0 ∨ g = 3) → K.length ≤ 12 → (b = 0 → s 24 2 = 8 + (K.length : Int)) ∧ (K.length < 12 → ∃ s1, trl_readClassName_55 s = some (0, up s1 2 12 ((j + 1 : Nat) : Int)) ∧ T 0 (K ++ [j]) U W Y A s1 ∧ MX s0 s s1)) ∧
  (∀ g K U W Y A s (j : Nat) (so : Int) y, T g K U W Y A s → SC s0 s → j < N → s0 9 j = 3 → s 2 12 = (j : Int) → (g = 0 ∨ g = 3) → K ≠ [] → (so = 1 ∨ so = 2 ∨ so = 3) → U.length ≤ 60 → (b = 0 → s 27 2 = 40 + (U.length : Int)) ∧ (U.length < 60 → ∃ s1, trl_readSubName_55 (256 + so) s = some (0, up s1 2 12 ((j + 1 : Nat) : Int)) ∧ T 1 K (U ++ [((K.length : Int) - 1, so, j, y)]) W Y A s1 ∧ MX s0 s s1)) ∧
  (∀ K U W Y A s, T 1 K U W Y A s → SC s0 s → ∃ s1, scp_tellParameters s = some (0, s1) ∧ T 2 K U W Y A s1 ∧ MX s0 s s1) ∧
  (∀ K U W Y A s (so : Int), T 2 K U W Y A s → SC s0 s → (∃ x y, U.getLast? = some (x, so, y)) → ∃ (R : List itm → iS → Prop) (fv : Nat → Int) (s1 : iS), RHE R b fv s0 N ∧ RHS R b fv s0 N P ∧ trl_beginBody (256 + so) (up s 22 7 0) = some (0, s1) ∧ R [] s1 ∧ MX s0 s s1 ∧ s1 22 7 = 0 ∧ Z s1 ∧ ∀ l s2 (j : Int), R l s2 → SC s0 s2 → ∃ s3 s4 s5, prg_add 0 0 0 s2 = some (0, s3) ∧ prg_add 16 0 0 s3 = some (0, s4) ∧ prg_endSub s4 = some (0, s5) ∧ T 3 K U W Y (A ++ [l ++ [(0, 0, 0, j), (18, 1, 0, j)]]) s5 ∧ MX s0 s2 s5)
/-- a dead pair -/
def DX (M : Nat) (b : Int) (Z : iS → Prop) (s0 t0 : iS) (N : Nat) (P : Nat → Nat) (q : Int) (t1 : iS) (cl : Option (Int × iS)) : Prop := ∃ f u, ft f u N ∧ RD t0 N P t1 f u M ∧ t1 121 17 = q ∧ (b = 0 → ∃ r s', cl = some (r, s') ∧ CD s0 N s' f u ∧ Z s')
section TXc
variable {F : Nat → Int} {n N : Nat} {P : Nat → Nat} {s0 t0 : iS} {T : TXP} {TV : Int → Int → Prop} {Z : iS → Prop} {b : Int} {g : Nat} {K : List Nat} {U : List urec} {W : List wrec} {Y : List Nat} {A : List (List itm)} {s s1 t : iS} {p o w I C : Nat}
theorem KS_ZK {s s' : iS} (h : KS s s') : ZK s s' := fun c k a b' d => h c k (by omega) (by omega) (by omega) d
theorem stp_ZK {f : Int} : ZK s (stp s f p N) := fun c k a b' d => by
  unfold stp
  rw [up_ne (by omega), up_ne (by omega), up_ne (by omega)]
theorem LXT_MX (h : LXT s0 t0 N s t p o w I C) (hm : MX s0 s s1) : LXT s0 t0 N s1 t p o w I C := by
  obtain ⟨h1, h2, h3, h4, h5, h6, h7, h8, h9, h10, h11⟩ := h
  obtain ⟨m1, m2, m3, m4⟩ := hm
  exact ⟨m1, h2, by rw [m2]; exact h3, h4, h5, h6, by rw [m3]; exact h7, h8, h9, by rw [m4]; exact h10, h11⟩
theorem LXT_go (h : LXT s0 t0 N s t p o w I C) (hp : p + 1 < N) : LXT s0 t0 N (up s 2 12 ((p + 1 : Nat) : Int)) (up t 121 10 ((p + 1 : Nat) : Int)) (p + 1) o w I C := by
  obtain ⟨h1, h2, h3, h4, h5, h6, h7, h8, h9, h10, h11, h12, h13, h14, h15, h16⟩ := h
  exact ⟨SC_up h1 (by omega), SR_up h2 (by omega), up_same _ _ _ _, up_same _ _ _ _, hp, by rw [up_ne (by omega)]; exact h6, by rw [up_ne (by omega)]; exact h7, by rw [up_ne (by omega)]; exact h8, h9, by rw [up_ne (by omega)]; exact h10, by rw [up_ne (by omega)]; exact h11, h12, by rw [up_ne (by omega)]; exact h13, by rw [up_ne (by omega)]; exact h14, by omega, by omega⟩
/-- the reference's own rows of the text -/
theorem LXT_r {t' : iS} (h : LXT s0 t0 N s t p o w I C) (hr : SR t0 t') (hs : ∀ k, k = 10 ∨ k = 11 ∨ k = 48 ∨ k = 49 ∨ k = 33 ∨ k = 39 → t' 121 k = t 121 k) : LXT s0 t0 N s t' p o w I C := by
  obtain ⟨h1, h2, h3, h4, h5, h6, h7, h8, h9, h10, h11, h12, h13, h14, h15, h16⟩ := h
  exact ⟨h1, hr, h3, by rw [hs 10 (by omega)]; exact h4, h5, by rw [hs 11 (by omega)]; exact h6, h7, by rw [hs 48 (by omega)]; exact h8, h9, h10, by rw [hs 49 (by omega)]; exact h11, h12, by rw [hs 33 (by omega)]; exact h13, by rw [hs 39 (by omega)]; exact h14, h15, h16⟩
/-- both stop with a fault here -/
theorem x_stop (h : TKR 0 F n N P s0 t0) (hT : RHT T TV Z b s0 N P) (hL : LXT s0 t0 N s t p o w I C) (hs : T g K U W Y A s) {f : Int} (hf : f = 1 ∨ f = 2) {cl : Option (Int × iS)} (hc : b = 0 → ∃ r, cl = some (r, stp s f p N)) : DX 3010 b Z s0 t0 N P (t 121 17) (flt t f P p) cl := by
  have hN2 := N1001 h
  obtain ⟨h1, h2, h3, h4, h5, h6, h7, h8, h9, h10, h11, h12, h13, h14, h15, h16⟩ := hL
  refine ⟨f, p, ⟨hf, h5⟩, flt_RD h2 h4 h5 h13 (by omega) (by omega), flt_ne (by omega), fun hb => ?_⟩
  obtain ⟨r, e⟩ := hc hb
  obtain ⟨y1, y2, y3, y4⟩ := hT.2.1 _ _ _ _ _ _ s hs
  exact ⟨r, _, e, stp_CD h1 (by rw [y1, hb]) (y3 hb).2 y2, hT.2.2.2.1 _ _ y4 stp_ZK⟩
/-- a sign that must come -/
theorem x_need (h : TKR 0 F n N P s0 t0) (hT : RHT T TV Z b s0 N P) (hL : LXT s0 t0 N s t p o w I C) (hs : T g K U W Y A s) {c : Int} (hc : 33 ≤ c ∧ c ≤ 126) : (s0 9 p = c ∧ p + 1 < N ∧ tok_expect c s = some (0, up s 2 12 ((p + 1 : Nat) : Int)) ∧ m_needSign c t = some (0, up t 121 10 ((p + 1 : Nat) : Int))) ∨ (∃ t2, m_needSign c t = some (0, t2) ∧ DX 3010 b Z s0 t0 N P (t 121 17) t2 (tok_expect c s)) := by
  have hL' := hL
  obtain ⟨h1, h2, h3, h4, h5, h6, _⟩ := hL
  have N0 := rNs h h2 h6 h4 h5 hc
  by_cases k : s0 9 p = c
  · rw [if_pos k] at N0
    exact Or.inl ⟨k, tkL h h5 (by omega), cEx h h1 h3 h5 (by omega) k, N0⟩
  · rw [if_neg k] at N0
    have hf : (if s0 9 p = 2 then (2 : Int) else 1) = 1 ∨ (if s0 9 p = 2 then (2 : Int) else 1) = 2 := by split <;> omega
    refine Or.inr ⟨_, N0, x_stop h hT hL' hs hf (fun hb => ⟨0, cEx0 h h1 ((hT.2.1 _ _ _ _ _ _ s hs).2.2.1 hb).1 h3 h5 (by omega) k⟩)⟩
/-- a type -/
theorem x_type (h : TKR 0 F n N P s0 t0) (hT : RHT T TV Z b s0 N P) (hL : LXT s0 t0 N s t p o w I C) (hs : T g K U W Y A s) :
    (p + 1 < N ∧ ∃ r s1 Y1, trl_readType s = some (r, up s1 2 12 ((p + 1 : Nat) : Int)) ∧ m_type t = some ((p : Int), up t 121 10 ((p + 1 : Nat) : Int)) ∧ TV (p : Int) r ∧ T g K U W Y1 A s1 ∧ MX s0 s s1 ∧ (s0 9 p = 3 ∧ Y1 = Y ++ [p] ∨ s0 9 p ≠ 3 ∧ Y1 = Y)) ∨
    (∃ r t2, m_type t = some (r, t2) ∧ -1 ≤ r ∧ r < 2000 ∧ DX 3010 b Z s0 t0 N P (t 121 17) t2 (trl_readType s)) := by
  have hN2 := N1001 h
  have hL' := hL
  obtain ⟨h1, h2, h3, h4, h5, h6, _⟩ := hL
  have kk := tkK h h5
  have e124 : t 124 (t 121 10).toNat = t0 124 p := by rw [h4, Int.toNat_natCast, h2.2.1]
  have G57 : m_type_57 t = some ((p : Int), up t 121 10 ((p + 1 : Nat) : Int)) := by
    unfold m_type_57
    rw [rGo h6 h4, bq, up_same, show ((p + 1 : Nat) : Int) - 1 = (p : Int) by omega]
  have G1 : m_type_32 1 t = some ((p : Int), up t 121 10 ((p + 1 : Nat) : Int)) := by
    unfold m_type_32
    rw [gr (by omega), if_neg (by omega), G57]
  rw [mty_eq h h2 h4 h5]
  unfold trl_readType
  rw [cK h h1 h3 h5, bq]
  by_cases c1 : s0 9 p = 3
  · obtain ⟨r, s1, e1, e2, e3, e4⟩ := hT.2.2.2.2.1 _ _ _ _ _ _ s p hs h1 h5 c1 h3
    refine Or.inl ⟨tkL h h5 (by omega), r, s1, _, ?_, ?_, e2, e3, e4, Or.inl ⟨c1, rfl⟩⟩
    · rw [gr (by omega), if_pos c1, h3, e1 trl_readType_88]
      unfold trl_readType_88
      rw [lt_eq, e4.2.1, h3]
      rfl
    · rw [if_neg (by omega)]
      unfold m_type_32
      rw [gr (by omega), if_pos rfl, gd_pos (by omega), gr (by omega), if_pos (by omega), G57]
  · by_cases c2 : s0 9 p = 263 ∨ s0 9 p = 264 ∨ s0 9 p = 265
    · refine Or.inl ⟨tkL h h5 (by omega), -1, s, Y, ?_, by rw [if_pos c2, G1], hT.2.2.2.2.2.1 p c2, hs, ⟨h1, rfl, rfl, rfl⟩, Or.inr ⟨c1, rfl⟩⟩
      have E : trl_readType_88 (-1) s = some (-1, up s 2 12 ((p + 1 : Nat) : Int)) := by
        unfold trl_readType_88
        rw [lt_eq, h3]
        rfl
      rw [gr (by omega), if_neg c1]
      rcases c2 with c | c | c
      · rw [if_pos c, E]
      · rw [if_neg (by omega), if_pos c, E]
      · rw [if_neg (by omega), if_neg (by omega), if_pos c, E]
    · have hf : (if s0 9 p = 2 then (2 : Int) else 1) = 1 ∨ (if s0 9 p = 2 then (2 : Int) else 1) = 2 := by split <;> omega
      refine Or.inr ⟨(p : Int) - 1, flt t (if s0 9 p = 2 then (2 : Int) else 1) P p, ?_, by omega, by omega, x_stop h hT hL' hs hf (fun hb => ⟨-1, ?_⟩)⟩
      · rw [if_neg c2]
        unfold m_type_32
        rw [gr (by omega), if_pos rfl, gd_pos (by omega), gr (by omega), if_neg (by omega), rSy h h2 h6 h4 h5, bq, flt_ne (by omega), h4]
      · rw [gr (by omega), if_neg c1, if_neg (by omega), if_neg (by omega), if_neg (by omega), cSt h h1 ((hT.2.1 _ _ _ _ _ _ s hs).2.2.1 hb).1 h3 h5, bq]
end TXc
