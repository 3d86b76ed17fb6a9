/-! declarations: type and names -/
/-- the types that were asked for are those that are told; names are names -/
def YOK (s0 : iS) (N : Nat) (Y K : List Nat) (U : List urec) (W : List wrec) : Prop :=
  (∀ j ∈ Y, j < N ∧ s0 9 j = 3 ∧ ((∃ e ∈ W, e.2.2.2.1 = (j : Int)) ∨ ∃ e ∈ U, e.2.2.2 = (j : Int))) ∧
  (∀ e ∈ W, (∃ j : Nat, e.2.2.2.1 = (j : Int) ∧ j < N ∧ (s0 9 j = 3 → j ∈ Y)) ∧ e.2.2.2.2.1 < N ∧ s0 9 e.2.2.2.2.1 = 3) ∧
  (∀ e ∈ U, (e.2.2.2 = -1 ∨ ∃ j : Nat, e.2.2.2 = (j : Int) ∧ j < N ∧ (s0 9 j = 3 → j ∈ Y)) ∧ e.2.2.1 < N ∧ s0 9 e.2.2.1 = 3 ∧ (e.2.1 = 1 ∨ e.2.1 = 2 ∨ e.2.1 = 3)) ∧
  (∀ j ∈ K, j < N ∧ s0 9 j = 3)
section TXg
variable {F : Nat → Int} {n N : Nat} {P : Nat → Nat} {s0 t0 : iS} {T : TXP} {TV : Int → Int → Prop} {Z : iS → Prop} {b : Int} {g : Nat} {K : List Nat} {U : List urec} {W : List wrec} {Y Y1 : List Nat} {A : List (List itm)} {s s1 t t1 t2 : iS} {p o w I C : Nat} {v r y : Int}
theorem YOK_W {l : List wrec} (h : YOK s0 N Y K U W) (hp : p < N) (hY : s0 9 p = 3 ∧ Y1 = Y ++ [p] ∨ s0 9 p ≠ 3 ∧ Y1 = Y) (hl : l ≠ []) (hl2 : ∀ e ∈ l, e.2.2.2.1 = (p : Int) ∧ e.2.2.2.2.1 < N ∧ s0 9 e.2.2.2.2.1 = 3) : YOK s0 N Y1 K U (W ++ l) := by
  obtain ⟨h1, h2, h3, h4⟩ := h
  have sub : ∀ j ∈ Y, j ∈ Y1 := fun j hj => by
    rcases hY with ⟨_, q⟩ | ⟨_, q⟩
    · rw [q]; exact List.mem_append_left _ hj
    · rw [q]; exact hj
  refine ⟨fun j hj => ?_, fun e he => ?_, fun e he => ?_, h4⟩
  · have old : j ∈ Y → j < N ∧ s0 9 j = 3 ∧ ((∃ e ∈ W ++ l, e.2.2.2.1 = (j : Int)) ∨ ∃ e ∈ U, e.2.2.2 = (j : Int)) := fun q => by
      obtain ⟨a, b', c⟩ := h1 j q
      refine ⟨a, b', ?_⟩
      rcases c with ⟨e, e1, e2⟩ | c
      · exact Or.inl ⟨e, List.mem_append_left _ e1, e2⟩
      · exact Or.inr c
    rcases hY with ⟨c, q⟩ | ⟨c, q⟩
    · rw [q] at hj
      rcases List.mem_append.mp hj with a | a
      · exact old a
      · rw [List.mem_singleton.mp a]
        obtain ⟨e, l', el⟩ := List.exists_cons_of_ne_nil hl
        have em : e ∈ l := by rw [el]; exact List.mem_cons_self
        exact ⟨hp, c, Or.inl ⟨e, List.mem_append_right _ em, (hl2 e em).1⟩⟩
    · rw [q] at hj
      exact old hj
  · rcases List.mem_append.mp he with a | a
    · obtain ⟨⟨j, j1, j2, j3⟩, b'⟩ := h2 e a
      exact ⟨⟨j, j1, j2, fun q => sub j (j3 q)⟩, b'⟩
    · obtain ⟨a1, a2, a3⟩ := hl2 e a
      refine ⟨⟨p, a1, hp, fun q => ?_⟩, a2, a3⟩
      rcases hY with ⟨_, q'⟩ | ⟨q', _⟩
      · rw [q']; exact List.mem_append_right _ (List.mem_singleton.mpr rfl)
      · exact absurd q q'
  · obtain ⟨a, b'⟩ := h3 e he
    refine ⟨?_, b'⟩
    rcases a with a | ⟨j, j1, j2, j3⟩
    · exact Or.inl a
    · exact Or.inr ⟨j, j1, j2, fun q => sub j (j3 q)⟩
theorem CTZ_rv (h : TKR 0 F n N P s0 t0) {x : Int} : CTZ Z s0 N (fun s => bd (trl_declare v x s) (fun _ s2 => trl_readVariables_13 v x 0 s2)) := fun s f u hf hd hz => ⟨0, s, by show bd (trl_declare v x s) _ = _; rw [cz_decl h hf hd, bq, cz_var13 h hf hd (by omega)], hd, hz⟩
/-- a declaration: the word is at hand -/
theorem x_vars (h : TKR 0 F n N P s0 t0) (hT : RHT T TV Z b s0 N P) (hK : K ≠ []) (hv : v = 2 ∧ U ≠ [] ∨ v = 3 ∨ v = 4) (hg : g = 0 ∧ (v = 3 ∨ v = 4) ∨ g = 2 ∧ v = 2) {u so : Int} (hu : u = if v = 2 then (U.length : Int) - 1 else -1) (hso : so = if v = 2 then 3 else if v = 3 then 0 else 1) (hL : LXT s0 t0 N s t p o w I C) (hk : 2 < s0 9 p) (hs : T g K U W Y A s) (hX : RXT K U W t) (hW : W.length ≤ p) (hY : YOK s0 N Y K U W) :
    (∃ s2 t2 p2 l Y2, trl_readVariables v (up s 2 12 ((p + 1 : Nat) : Int)) = some (0, s2) ∧ m_declares u so t = some (0, t2) ∧ LXT s0 t0 N s2 t2 p2 o w I C ∧ T g K U (W ++ l) Y2 A s2 ∧ RXT K U (W ++ l) t2 ∧ ((W ++ l).length ≤ p2 ∧ ∀ e ∈ l, e.2.2.2.2.1 < p2 ∧ e.1 = (K.length : Int) - 1 ∧ e.2.1 = u) ∧ p + 2 < p2 ∧ FDX t t2 ∧ YOK s0 N Y2 K U (W ++ l)) ∨
    (∃ t2, m_declares u so t = some (0, t2) ∧ DX 3010 b Z s0 t0 N P (t 121 17) t2 (trl_readVariables v (up s 2 12 ((p + 1 : Nat) : Int)))) := by
  have hN2 := N1001 h
  have hp1 : p + 1 < N := tkL h hL.2.2.2.2.1 hk
  have L1 := LXT_go hL hp1
  have T1 := (hT.1 _ _ _ _ _ _ s ((p + 1 : Nat) : Int) hs).1
  have X1 := RXT_10 (x := ((p + 1 : Nat) : Int)) hX
  have go := rGo hL.2.2.2.2.2.1 hL.2.2.2.1
  unfold m_declares trl_readVariables
  rw [go, bq]
  rcases x_type h hT L1 T1 with ⟨hp2, r, s1, Y1, e1, e2, e3, e4, e5, e6⟩ | ⟨r, t2, e1, e2, e3, e4⟩
  · have L2 := LXT_go (LXT_MX L1 e5) hp2
    have T2 := (hT.1 _ _ _ _ _ _ s1 ((p + 1 + 1 : Nat) : Int) e4).1
    have X2 := RXT_10 (x := ((p + 1 + 1 : Nat) : Int)) X1
    rw [e1, bq, e2, bq]
    rcases x_names h hT hK hv e3 hg hu hso (N - (p + 1 + 1)) W _ _ (p + 1 + 1) 0 (Nat.le_refl _) L2 T2 X2 (by omega) (by omega) with ⟨s2, t2, p2, l, a1, a2, a3, a4, a5, a6, a7, a8, a9, a10⟩ | ⟨t2, a1, a2⟩
    · exact Or.inl ⟨s2, t2, p2, l, Y1, a1, a2, a3, a4, a5, a6, by omega, FDX_trans FDX_10 (FDX_trans FDX_10 a8), YOK_W hY hp1 e6 a9 a10⟩
    · rw [up_ne (by omega), up_ne (by omega)] at a2
      exact Or.inr ⟨t2, a1, a2⟩
  · rw [up_ne (by omega)] at e4
    have D := DX_c e4 (k := fun x s1 => bd (trl_declare v x s1) (fun _ s2 => trl_readVariables_13 v x 0 s2)) (fun x => CTZ_rv h)
    refine Or.inr ⟨t2, ?_, D⟩
    obtain ⟨f, u', d1, d2, d3, d4⟩ := e4
    have g' := RZ_f d1 d2
    rw [e1, bq]
    unfold m_declares_12
    rw [lp_end (f := fun l : Int × iS => m_declares_12b u so r (l.1) (l.2)) (l := (1, t2)) (e := .inr (.inr t2)) (by
      show m_declares_12b u so r 1 t2 = _
      unfold m_declares_12b
      rw [gr (by omega), if_neg (by omega), gr (by omega), if_neg (by omega)]), bn]
    show m_declares_211 t2 = _
    unfold m_declares_211
    rw [RD_ns h d1 d2 (by omega), bq]
end TXg
