/-! the first reading: what the class does beside reading is nothing -/
/-- the variable of a name: among those of the sub, else of the class -/
def fvT (V : List (List Int)) (cv : Nat) (w : List Int) : Int := if fst1 (fun i => V.getD i [] = w) cv (V.length - cv) = -1 then fst1 (fun i => V.getD i [] = w) 0 cv else fst1 (fun i => V.getD i [] = w) cv (V.length - cv)
theorem fst1_rg {P : Nat → Prop} [DecidablePred P] : ∀ (k i : Nat), fst1 P i k = -1 ∨ ((i : Int) ≤ fst1 P i k ∧ fst1 P i k < ((i + k : Nat) : Int) ∧ P (fst1 P i k).toNat)
  | 0, i => Or.inl rfl
  | k + 1, i => by
    simp only [fst1]
    by_cases c : P i
    · rw [if_pos c]
      exact Or.inr ⟨by omega, by omega, by rw [Int.toNat_natCast]; exact c⟩
    · rw [if_neg c]
      rcases fst1_rg (P := P) k (i + 1) with h | ⟨h1, h2, h3⟩
      · exact Or.inl h
      · exact Or.inr ⟨by omega, by omega, h3⟩
/-- the class's variables: their names -/
def VS (V : List (List Int)) (cv : Nat) (s : iS) : Prop := TB 33 34 35 V s ∧ (∀ w ∈ V, gw w) ∧ V.length ≤ 48 ∧ s 23 15 = (cv : Int) ∧ cv ≤ V.length
section RF1
variable {F : Nat → Int} {n N : Nat} {P : Nat → Nat} {s0 t0 s : iS} {V : List (List Int)} {cv j : Nat}
theorem fvT_rg {w : List Int} (h : V.length ≤ 48) (h2 : cv ≤ V.length) : -1 ≤ fvT V cv w ∧ fvT V cv w < 48 := by
  unfold fvT
  have a := fst1_rg (P := fun i => V.getD i [] = w) (V.length - cv) cv
  have b := fst1_rg (P := fun i => V.getD i [] = w) cv 0
  split <;> omega
theorem fvT_ok (h : TKR 0 F n N P s0 t0) (hs : SC s0 s) (hj : j < N) (hk : s0 9 j = 3) (hv : VS V cv s) : trl_findVariable (j : Int) s = some (fvT V cv (nmT F P t0 j), s) := by
  obtain ⟨h1, h2, h3, h4, h5⟩ := hv
  unfold trl_findVariable fvT
  have e1 := cFi (c := 33) (a := 34) (b := 35) (M := 48) (f := cv) (e := 48) h hs hj hk h1 h2 (by omega) h3 (by omega) (by omega)
  have e2 := cFi (c := 33) (a := 34) (b := 35) (M := 48) (f := 0) (e := cv) h hs hj hk h1 h2 (by omega) h3 (by omega) (by omega)
  rw [show min 48 V.length - cv = V.length - cv by omega] at e1
  rw [show min cv V.length - 0 = cv by omega] at e2
  rw [h4, show tok_findIn 33 34 35 48 (j : Int) (cv : Int) 48 s = _ from e1, bq]
  have a := fst1_rg (P := fun i => V.getD i [] = nmT F P t0 j) (V.length - cv) cv
  rw [gr (by omega)]
  by_cases c : fst1 (fun i => V.getD i [] = nmT F P t0 j) cv (V.length - cv) = -1
  · rw [if_pos c, if_pos c, h4, show tok_findIn 33 34 35 48 (j : Int) 0 (cv : Int) s = _ from e2, bq]
  · rw [if_neg c, if_neg c]
theorem VS_up {c k : Nat} {x : Int} (h : VS V cv s) (hc : c ≠ 34 ∧ c ≠ 35 ∧ ¬ (c = 33 ∧ k = 2) ∧ ¬ (c = 23 ∧ k = 15)) : VS V cv (up s c k x) := by
  obtain ⟨h1, h2, h3, h4, h5⟩ := h
  exact ⟨TBo (up_ne (by omega)) (up_cell (by omega)) (up_cell (by omega)) h1, h2, h3, by rw [up_ne (by omega)]; exact h4, h5⟩
theorem VS_MD {s' : iS} (h : VS V cv s) (hM : MD s s') : VS V cv s' := by
  obtain ⟨h1, h2, h3, h4, h5⟩ := h
  exact ⟨TBo (MD_at hM (by omega) (by omega)) (funext fun k => MD_at hM (by omega) (by omega)) (funext fun k => MD_at hM (by omega) (by omega)) h1, h2, h3, by rw [MD_at hM (by omega) (by omega)]; exact h4, h5⟩
/-- the first reading -/
def RF1 (V : List (List Int)) (cv : Nat) (_ : List itm) (s : iS) : Prop := s 22 4 = 0 ∧ s 14 7 = 0 ∧ s 2 13 = 0 ∧ SBo s ∧ VS V cv s
theorem RF1_up {c k : Nat} {x : Int} {l : List itm} (h : RF1 V cv l s) (hc : ¬ (c = 22 ∧ k = 4) ∧ ¬ (c = 14 ∧ k = 7) ∧ ¬ (c = 2 ∧ k = 13) ∧ c ≠ 33 ∧ c ≠ 24 ∧ c ≠ 27 ∧ c ≠ 34 ∧ c ≠ 35 ∧ c ≠ 23) : RF1 V cv l (up s c k x) := by
  obtain ⟨h1, h2, h3, h4, h5⟩ := h
  exact ⟨by rw [up_ne (by omega)]; exact h1, by rw [up_ne (by omega)]; exact h2, by rw [up_ne (by omega)]; exact h3, SBo_up h4 (by omega), VS_up h5 (by omega)⟩
theorem rst0 (h : TKR 0 F n N P s0 t0) (hF : tkC F n s0) (hs : SC s0 s) (h7 : s 14 7 = 0) (hj : j < N) (hk : s0 9 j = 5) (hp : s 2 12 = (j : Int)) : trl_readStringTerm_78 (s0 11 j) 1 s = some (0, up s 2 12 ((j + 1 : Nat) : Int)) := by
  have hN2 := N1001 h
  obtain ⟨v, v1, v2, v3, v4, v5, v6⟩ := tkS h hj hk
  have hF2 : tkC F n s := tkC_of hs.2.2.2.2.2.2.2.1 hs.1 hF
  have hn : n ≤ 4000 := hF.2.1
  unfold trl_readStringTerm_78
  have L := lp_run (f := fun l : Int × iS => trl_readStringTerm_78b (v : Int) (l.1) (l.2)) (fun i : Nat => ((i : Int), s)) s (v + 1) (fun i hi => by
    show trl_readStringTerm_78b (v : Int) (i : Int) s = _
    unfold trl_readStringTerm_78b
    rw [gr (by omega), gr (by omega), if_neg (by omega), hp, cPo h hs hj, bq, show (P j : Int) + (i : Int) = ((P j + i : Nat) : Int) by omega, tba hF2 (by omega), bq, pad0 h7, bq, pad0 h7, bq, pai0 h7, bq]
    rfl) (by
    show trl_readStringTerm_78b (v : Int) ((v + 1 : Nat) : Int) s = _
    unfold trl_readStringTerm_78b
    rw [gr (by omega), gr (by omega), if_pos (by omega)]) v 1 (by omega)
  rw [v2, show lp (fun l : Int × iS => trl_readStringTerm_78b (v : Int) (l.1) (l.2)) (1, s) = _ from L, bn]
  unfold trl_readStringTerm_143
  rw [lt_eq, hp]
  rfl
theorem RF1_l {l l2 : List itm} (h : RF1 V cv l s) : RF1 V cv l2 s := h
theorem rf1_E (h : TKR 0 F n N P s0 t0) (hF : tkC F n s0) : RHE (RF1 V cv) 0 (fun j => fvT V cv (nmT F P t0 j)) s0 N := by
  have hN2 := N1001 h
  have rgc : ∀ c ∈ sO, rg c := by
    intro c hc
    simp only [sO, List.mem_cons, List.not_mem_nil, or_false] at hc
    unfold rg
    omega
  have H8 : ∀ s, SC s0 s → 0 ≤ s 2 8 ∧ s 2 8 ≤ 2001 := fun s hs => by
    rw [hs.2.2.2.2.2.2.1, h.2.2.2.1]
    omega
  have FV : ∀ {l s} (j : Nat), RF1 V cv l s → -1 ≤ fvT V cv (nmT F P t0 j) ∧ fvT V cv (nmT F P t0 j) < 48 := fun j hr => fvT_rg hr.2.2.2.2.2.2.1 hr.2.2.2.2.2.2.2.2
  refine ⟨?_, ?_, ?_, ?_, ?_, ?_, ?_, ?_, ?_, ?_, ?_, ?_, ?_, ?_, ?_, ?_⟩
  · exact fun l s x hr => ⟨RF1_up hr (by omega), RF1_up hr (by omega), RF1_up hr (by omega), RF1_up hr (by omega)⟩
  · exact fun l s hr => ⟨hr.1, hr.2.2.2.1, fun _ => ⟨hr.2.2.1, hr.2.1⟩⟩
  · exact fun l s v j hr _ _ => ⟨s, pad0 hr.2.1, hr, md_refl⟩
  · exact fun l s j hr => ⟨s, s, pad0 hr.2.1, pad0 hr.2.1, hr, md_refl⟩
  · exact fun l s j hr hs hj hk hp => ⟨s, s, s, s, pad0 hr.2.1, pad0 hr.2.1, pai0 hr.2.1, rst0 h hF hs hr.2.1 hj hk hp, hr, md_refl⟩
  · exact fun l s j hr hs hj => ⟨s, s, at0 hr.1, pad0 hr.2.1, hr, md_refl⟩
  · exact fun l s j hr hs hj hk => ⟨fvT_ok h hs hj hk hr.2.2.2.2, FV j hr⟩
  · exact fun l s j hr hs hj hk => ⟨s, s, cv0 hr.1, av0 hr.2.1 (FV j hr), hr, md_refl⟩
  · exact fun l s j hr => ⟨s, s, s, pad0 hr.2.1, pad0 hr.2.1, pad0 hr.2.1, hr, md_refl, md_refl⟩
  · exact fun l s c j hr hc => ⟨s, ao0 hr.2.1 (rgc c hc), hr, md_refl⟩
  · exact fun l s j hr => ⟨s, pad0 hr.2.1, hr, md_refl⟩
  · exact fun l s j hr => ⟨s, pad0 hr.2.1, hr, md_refl⟩
  · exact fun l s j hr hs hj hk => ⟨s, s, at0 hr.1, pad0 hr.2.1, hr, md_refl⟩
  · exact fun l s j hr hs hj hk hk2 => ⟨fun _ => ⟨s, s, cv0 hr.1, av0 hr.2.1 (FV j hr), hr, md_refl⟩, fun _ => hr⟩
  · exact fun l s j m G hr hs hj hk hm => ⟨s, rc0 hr.1, hr, md_refl⟩
  · intro l s j m G hr hs hj hk hk2 hm
    obtain ⟨r, e⟩ := ow0 (v := fvT V cv (nmT F P t0 j)) (j := (j : Int)) hr.1 (H8 s hs) hr.2.2.2.1 (FV j hr) (by omega)
    exact ⟨s, by show bd (trl_ownerOf (fvT V cv (nmT F P t0 j)) (j : Int) s) _ = _; rw [e, bq, rc0 hr.1], hr, md_refl⟩
theorem rf1_S (h : TKR 0 F n N P s0 t0) : RHS (RF1 V cv) 0 (fun j => fvT V cv (nmT F P t0 j)) s0 N P := by
  have FV : ∀ {l s} (j : Nat), RF1 V cv l s → -1 ≤ fvT V cv (nmT F P t0 j) ∧ fvT V cv (nmT F P t0 j) < 48 := fun j hr => fvT_rg hr.2.2.2.2.2.2.1 hr.2.2.2.2.2.2.2.2
  have M12 : ∀ {s : iS} {x : Int}, MD s (up s 14 12 x) := md_upF (by simp)
  refine ⟨?_, ?_, ?_, ?_, ?_, ?_, ?_, ?_, ?_, ?_, ?_, ?_, ?_⟩
  · exact fun _ l s x hr => RF1_up hr (by omega)
  · exact fun l s j hr _ _ => ⟨_, mk_eq, RF1_l (RF1_up hr (by omega)), M12⟩
  · intro l s j hr hs hj hk hk2
    have hr2 : RF1 V cv l (up (up s 14 12 (P j : Int)) 2 12 ((j + 1 : Nat) : Int)) := RF1_up (RF1_up hr (by omega)) (by omega)
    refine ⟨_, _, mk_eq, fvT_ok h (SC_up (SC_up hs (by omega)) (by omega)) hj hk2 hr2.2.2.2.2, cv0 hr2.1, RF1_l hr2, ?_⟩
    exact MD_up2 M12
  · exact fun l s j hr hs _ hj hk hk2 => ⟨s, av0 hr.2.1 (FV (j + 1) hr), hr, md_refl⟩
  · exact fun l s j hr hs _ hj hk hk2 => ⟨s, av0 hr.2.1 (FV (j + 1) hr), hr, md_refl⟩
  · exact fun l s j hr => ⟨s, s, s, s, pad0 hr.2.1, pad0 hr.2.1, pad0 hr.2.1, pad0 hr.2.1, hr, md_refl⟩
  · exact fun l s j hr => ⟨s, pad0 hr.2.1, hr, md_refl⟩
  · exact fun l s j hr => ⟨s, pad0 hr.2.1, hr, md_refl⟩
  · exact fun l s j lab hr hl => ⟨s, s, s, pad0 hr.2.1, pad0 hr.2.1, pad0 hr.2.1, hr, md_refl⟩
  · exact fun l s x j lab hr hl => ⟨s, pad0 hr.2.1, hr, md_refl⟩
  · exact fun l s j lab hr hl => ⟨s, pad0 hr.2.1, hr, md_refl⟩
  · exact fun l s j hr hj => ⟨_, mk_eq, RF1_l (RF1_up hr (by omega)), M12⟩
  · exact fun l s j hr => hr
end RF1
