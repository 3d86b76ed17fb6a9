/-! the first place of a program is told once -/
def G_rtx : List (Nat × Nat) := [(2, 12), (2, 13), (2, 14), (14, 7), (14, 8), (14, 9), (14, 10), (14, 12), (22, 4), (22, 5), (22, 6), (22, 7), (23, 11), (23, 12), (23, 13), (23, 14), (23, 15), (24, 2), (27, 2), (33, 2)]
theorem grt_97b (v1 : Int) (v2 : Int) (v3 : Int) (s : iS) : Fm (fun r : (Int × iS) ⊕ (iS) => r.elim (fun l => l.2) (fun e => e)) L_trl_readText G_rtx s (trl_readText_97b v1 v2 v3 s) := fm_gd (fm_if (fm_some md_refl) (fm_bd (fm_sub (ftok_kind _) (mem_sub_L rfl) (mem_sub_F rfl)) (fun r3 s3 => fm_bd (fm_sub (ftrl_beginsSub _ _) (mem_sub_L rfl) (mem_sub_F rfl)) (fun r4 s4 => fm_gd (fm_if (fm_some md_refl) (fm_bd (fm_sub (ftrl_readSub _) (mem_sub_L rfl) (mem_sub_F rfl)) (fun r7 s7 => fm_some md_refl)))))))
theorem grt_127 (v1 : Int) (v2 : Int) (s : iS) : Fm (fun r : (Int × iS) ⊕ (iS) => r.elim (fun l => l.2) (fun e => e)) L_trl_readText G_rtx s (trl_readText_127 v1 v2 s) := fm_bd (fm_sub (ftok_expect _ _) (mem_sub_L rfl) (mem_sub_F rfl)) (fun r1 s1 => fm_lt (md_upF (mem_F rfl)) (fun s2 => fm_some md_refl))
theorem grt_97 (v1 : Int) (v2 : Int) (v3 : Int) (s : iS) : Fm (fun r : (Int × iS) ⊕ (iS) => r.elim (fun l => l.2) (fun e => e)) L_trl_readText G_rtx s (trl_readText_97 v1 v2 v3 s) := by
  unfold trl_readText_97
  refine fm_lp (A := Int × iS) (E := iS) (LS := fun l => l.2) (LE := fun e => e) ?_ ?_ (v3, s)
  · exact fun l => grt_97b _ _ _ _
  · exact (fun e => grt_127 _ _ _)
theorem grt_48b (v1 : Int) (v2 : Int) (s : iS) : Fm (fun r : (Int × iS) ⊕ (iS) => r.elim (fun l => l.2) (fun e => e)) L_trl_readText G_rtx s (trl_readText_48b v1 v2 s) := fm_gd (fm_if (fm_some md_refl) (fm_bd (fm_sub (ftok_kind _) (mem_sub_L rfl) (mem_sub_F rfl)) (fun r3 s3 => fm_gd (fm_if (fm_lt (md_upF (mem_F rfl)) (fun s6 => fm_bd (fm_sub (ftrl_readClassName _) (mem_sub_L rfl) (mem_sub_F rfl)) (fun r7 s7 => fm_bd (fm_sub (ftrl_openSign _ _) (mem_sub_L rfl) (mem_sub_F rfl)) (fun r8 s8 => fm_bd (fm_sub (ftrl_readClassVariables _) (mem_sub_L rfl) (mem_sub_F rfl)) (fun r9 s9 => grt_97 _ _ _ _))))) (fm_some md_refl)))))
theorem grt_152 (v1 : Int) (s : iS) : Fm Prod.snd L_trl_readText G_rtx s (trl_readText_152 v1 s) := fm_bd (fm_sub (ftok_expect _ _) (mem_sub_L rfl) (mem_sub_F rfl)) (fun r1 s1 => fm_gd (fm_if (fm_some md_refl) (fm_bd (fm_sub (ftrl_findMain _) (mem_sub_L rfl) (mem_sub_F rfl)) (fun r4 s4 => fm_bd (fm_sub (fprg_settleCalls _) (mem_sub_L rfl) (mem_sub_F rfl)) (fun r5 s5 => fm_some md_refl)))))
theorem grt_48 (v1 : Int) (v2 : Int) (s : iS) : Fm Prod.snd L_trl_readText G_rtx s (trl_readText_48 v1 v2 s) := by
  unfold trl_readText_48
  refine fm_lp (A := Int × iS) (E := iS) (LS := fun l => l.2) (LE := fun e => e) ?_ ?_ (v2, s)
  · exact fun l => grt_48b _ _ _
  · exact (fun e => grt_152 _ _)
section LDw
variable {F : Nat → Int} {n N : Nat} {P : Nat → Nat} {s0 t0 s s' : iS}
theorem bd_inv {α : Type} {x : Option (Int × iS)} {f : Int → iS → Option α} {y : α} (h : bd x f = some y) : ∃ r s, x = some (r, s) ∧ f r s = some y := by
  cases x with
  | none => cases h
  | some q =>
    obtain ⟨r, s⟩ := q
    exact ⟨r, s, rfl, h⟩
theorem rtx_14 (h : TKR 0 F n N P s0 t0) (hs : SC s0 s) (e : trl_readText 1 s = some (0, s')) : s' 14 11 = (P 0 : Int) := by
  unfold trl_readText at e
  rw [gd_pos (Or.inr rfl), lt_eq, lt_eq, lt_eq] at e
  obtain ⟨r5, s5, e5, e⟩ := bd_inv e
  obtain ⟨r6, s6, e6, e⟩ := bd_inv e
  obtain ⟨r7, s7, e7, e⟩ := bd_inv e
  obtain ⟨r8, s8, e8, e⟩ := bd_inv e
  have c5 : SC s0 s5 := SC_md rfl (show md L_tok_rewind G_tok_rewind _ s5 from ftok_rewind _ _ e5) (SC_up (SC_up (SC_up hs (by omega)) (by omega)) (by omega))
  have c6 : SC s0 s6 := SC_md rfl (show md L_scp_beginText G_scp_beginText _ s6 from fscp_beginText _ _ _ e6) c5
  have hN := h.2.1
  have e7' : tok_placeOf ((0 : Nat) : Int) s6 = some (r7, s7) := e7
  rw [cPo h c6 (by omega)] at e7'
  have q1 : (P 0 : Int) = r7 := congrArg Prod.fst (Option.some.inj e7')
  unfold prg_begin at e8
  rw [gd_pos (Or.inr rfl), lt_eq, lt_eq, lt_eq, lt_eq, lt_eq] at e8
  have q2 : up (up (up (up (up s7 14 7 1) 14 8 0) 14 10 0) 14 11 r7) 14 12 (-1) = s8 := congrArg Prod.snd (Option.some.inj e8)
  have q3 : s8 14 11 = r7 := by
    rw [← q2, up_ne (by omega), up_same]
  have m : md L_trl_readText G_rtx s8 s' := grt_48 _ _ _ _ e
  rw [m 14 11 (by decide) (by decide), q3, ← q1]
end LDw
