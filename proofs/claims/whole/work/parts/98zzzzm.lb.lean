/-! the system's subs, one by one (printed by wip/whole/gper.py) -/
section LBm
variable {s s' t t' : iS} {a b c d v : Int}
theorem fr9 {L : List Nat} {G : List (Nat × Nat)} (hc : chk [] [(48, 9)] L G = true) (hm : md L G s s') : s' 48 9 = s 48 9 := (chk_ok hc hm).2 (48, 9) (by decide)
/-- what a sub of the system gives -/
def PF (s : iS) (X Y : Option (Int × iS)) : Prop := Ov VS1 X Y ∧ ∀ r s', X = some (r, s') → s' 48 9 = s 48 9
theorem PF_of {X X' Y Y' : Option (Int × iS)} (e1 : X = X') (e2 : Y = Y') (h : Ov VS1 X' Y') (hf : ∀ r s', X' = some (r, s') → s' 48 9 = s 48 9) : PF s X Y := by
  rw [PF, e1, e2]
  exact ⟨h, hf⟩
theorem som9 {x : Int} : ∀ r s', some (x, s) = some (r, s') → s' 48 9 = s 48 9 := fun r s' e => by rw [← (Prod.mk.inj (Option.some.inj e)).2]
theorem rd9 {x : Int} : ∀ r s', mem_read x s = some (r, s') → s' 48 9 = s 48 9 := fun r s' e => fr9 rfl (show md L_mem_read G_mem_read s s' from fmem_read _ _ _ e)
theorem fl9 {x : Int} : ∀ r s', mem_fail x s = some (r, s') → s' 48 9 = s 48 9 := fun r s' e => fr9 rfl (show md L_mem_fail G_mem_fail s s' from fmem_fail _ _ _ e)
theorem rl9 {x : Int} : ∀ r s', mem_release x s = some (r, s') → s' 48 9 = s 48 9 := fun r s' e => fr9 rfl (show md L_mem_release G_mem_release s s' from fmem_release _ _ _ e)
theorem al9 {x : Int} : ∀ r s', mem_allocate x s = some (r, s') → s' 48 9 = s 48 9 := fun r s' e => fr9 rfl (show md L_mem_allocate G_mem_allocate s s' from fmem_allocate _ _ _ e)
theorem fl_r {n : Int} {g : iS → Option (Int × iS)} (h : LB s t) (hg : gO s t) (hn : w16 n) (hd : DRf g) : Ov VS1 (mem_fail n s) (bd (m_err n t) (fun _ s1 => g s1)) := by
  have q := Ov_bd (V := fun _ _ => False) (V' := VS1) (f := fun r s => some (r, s)) (g := fun _ s1 => g s1) (fail_go h hg hn) (fun _ _ _ _ q _ _ => q.elim) (fun r hr => DCl_some hr) (fun _ _ => hd)
  rw [bd_id] at q
  exact q
theorem mul_r32 {a b : Int} (ha : w16 a) (hb : w16 b) : r32 (a * b) := by
  have h1 : (a.natAbs * b.natAbs : Nat) ≤ 32768 * 32768 := Nat.mul_le_mul (by omega) (by omega)
  have h2 : (a * b).natAbs = a.natAbs * b.natAbs := Int.natAbs_mul a b
  omega
theorem tdiv_r32 {a b : Int} (ha : w16 a) : r32 (a.tdiv b) := by
  have h2 : (a.tdiv b).natAbs = a.natAbs / b.natAbs := Int.natAbs_tdiv a b
  have h3 : a.natAbs / b.natAbs ≤ a.natAbs := Nat.div_le_self _ _
  omega
theorem pf_0 (h : LB s t) (hg : gO s t) (ha : w16 a) (h0 : t 188 0 = a) : PF s (lib_perform 0 a b c d s) (m_systemCall 0 0 t) := by
  have e1 : lib_perform 0 a b c d s = bd (mth_abs a s) (fun r3 s3 => some ((i_s r3), s3)) := by
    unfold lib_perform
    rw [gr (by omega)]
    simp only [Int.reduceEq, ↓reduceIte, bd_id]
  have e2 : m_systemCall 0 0 t = m_math 0 t := by
    unfold m_systemCall
    rw [gr (by omega)]
    simp only [Int.reduceEq, ↓reduceIte, bd_id]
  refine PF_of e1 e2 ?_ ?_
  · unfold m_math mth_abs
    rw [gr (by omega)]
    simp only [Int.reduceEq, ↓reduceIte]
    rw [h0, gr (by omega), gr (by omega)]
    by_cases q : 0 ≤ a
    · rw [if_pos q, if_pos q, bq]
      exact Ov_some h hg ⟨rfl, by omega⟩
    · rw [if_neg q, if_neg q, bq]
      exact Ov_some h hg ⟨rfl, by omega⟩
  · intro r s' e
    unfold mth_abs at e
    rw [gr (by omega)] at e
    by_cases q : 0 ≤ a
    · rw [if_pos q, bq] at e
      exact som9 r s' e
    · rw [if_neg q, bq] at e
      exact som9 r s' e

theorem pf_1 (h : LB s t) (hg : gO s t) (ha : w16 a) (hb : w16 b) (h0 : t 188 0 = a) (h1 : t 188 1 = b) : PF s (lib_perform 1 a b c d s) (m_systemCall 0 1 t) := by
  have e1 : lib_perform 1 a b c d s = mth_min a b s := by
    unfold lib_perform
    rw [gr (by omega)]
    simp only [Int.reduceEq, ↓reduceIte, bd_id]
  have e2 : m_systemCall 0 1 t = m_math 1 t := by
    unfold m_systemCall
    rw [gr (by omega)]
    simp only [Int.reduceEq, ↓reduceIte, bd_id]
  refine PF_of e1 e2 ?_ ?_
  · rw [min_ok ⟨by omega, by omega⟩ ⟨by omega, by omega⟩]
    unfold m_math
    rw [gr (by omega)]
    simp only [Int.reduceEq, ↓reduceIte]
    rw [h0, h1, gr (by omega), gr (by omega)]
    by_cases q : b ≤ a
    · rw [if_pos q]
      exact Ov_some h hg (VS1_eq ⟨by split <;> omega, by split <;> omega⟩)
    · rw [if_neg q]
      exact Ov_some h hg (VS1_eq ⟨by split <;> omega, by split <;> omega⟩)
  · rw [min_ok ⟨by omega, by omega⟩ ⟨by omega, by omega⟩]
    exact som9

theorem pf_2 (h : LB s t) (hg : gO s t) (ha : w16 a) (hb : w16 b) (h0 : t 188 0 = a) (h1 : t 188 1 = b) : PF s (lib_perform 2 a b c d s) (m_systemCall 0 2 t) := by
  have e1 : lib_perform 2 a b c d s = mth_max a b s := by
    unfold lib_perform
    rw [gr (by omega)]
    simp only [Int.reduceEq, ↓reduceIte, bd_id]
  have e2 : m_systemCall 0 2 t = m_math 2 t := by
    unfold m_systemCall
    rw [gr (by omega)]
    simp only [Int.reduceEq, ↓reduceIte, bd_id]
  refine PF_of e1 e2 ?_ ?_
  · rw [max_ok ⟨by omega, by omega⟩ ⟨by omega, by omega⟩]
    unfold m_math
    rw [gr (by omega)]
    simp only [Int.reduceEq, ↓reduceIte]
    rw [h0, h1, gr (by omega), gr (by omega)]
    by_cases q : a ≤ b
    · rw [if_pos q]
      exact Ov_some h hg (VS1_eq ⟨by split <;> omega, by split <;> omega⟩)
    · rw [if_neg q]
      exact Ov_some h hg (VS1_eq ⟨by split <;> omega, by split <;> omega⟩)
  · rw [max_ok ⟨by omega, by omega⟩ ⟨by omega, by omega⟩]
    exact som9

theorem pf_3 (h : LB s t) (hg : gO s t) (ha : w16 a) (hb : w16 b) (h0 : t 188 0 = a) (h1 : t 188 1 = b) : PF s (lib_perform 3 a b c d s) (m_systemCall 0 3 t) := by
  have e1 : lib_perform 3 a b c d s = some ((i_s (a * b)), s) := by
    unfold lib_perform
    rw [gr (by omega)]
    simp only [Int.reduceEq, ↓reduceIte, bd_id]
  have e2 : m_systemCall 0 3 t = m_math 3 t := by
    unfold m_systemCall
    rw [gr (by omega)]
    simp only [Int.reduceEq, ↓reduceIte, bd_id]
  refine PF_of e1 e2 ?_ ?_
  · unfold m_math
    rw [gr (by omega)]
    simp only [Int.reduceEq, ↓reduceIte]
    rw [h0, h1]
    exact Ov_some h hg ⟨rfl, mul_r32 ha hb⟩
  · exact som9

theorem pf_4 (h : LB s t) (hg : gO s t) (ha : w16 a) (hb : w16 b) (h0 : t 188 0 = a) (h1 : t 188 1 = b) : PF s (lib_perform 4 a b c d s) (m_systemCall 0 4 t) := by
  have e1 : lib_perform 4 a b c d s = gd (rg b) (if b = 0 then mem_fail 3 s else gd (rg a) (gd (¬ b = 0) (some ((i_s (a.tdiv b)), s)))) := by
    unfold lib_perform
    rw [gr (by omega)]
    simp only [Int.reduceEq, ↓reduceIte, bd_id]
  have e2 : m_systemCall 0 4 t = m_math 4 t := by
    unfold m_systemCall
    rw [gr (by omega)]
    simp only [Int.reduceEq, ↓reduceIte, bd_id]
  refine PF_of e1 e2 ?_ ?_
  · unfold m_math
    rw [gr (by omega)]
    simp only [Int.reduceEq, ↓reduceIte]
    have gb : ∀ x : Option (Int × iS), gd (rg b) x = x := fun x => gr (by omega)
    rw [h0, h1, gb, gr (by omega)]
    by_cases q : b = 0
    · rw [if_pos q, if_pos q]
      exact fl_r (n := 3) (g := m_math_94 a b) h hg (by decide) (fun s t _ _ => ⟨0, by unfold m_math_94; rw [gr (by omega), if_pos q], by decide⟩)
    · unfold m_math_94
      rw [if_neg q, if_neg q, gr (by omega), if_neg q, gr (by omega), gr (by omega), gd_pos q, gd_pos q]
      exact Ov_some h hg ⟨rfl, tdiv_r32 ha⟩
  · intro r s' e
    rw [gr (by omega)] at e
    by_cases q : b = 0
    · rw [if_pos q] at e
      exact fl9 r s' e
    · rw [if_neg q, gr (by omega), gd_pos q] at e
      exact som9 r s' e

theorem pf_5 (h : LB s t) (hg : gO s t) (ha : w16 a) (h0 : t 188 0 = a) : PF s (lib_perform 5 a b c d s) (m_systemCall 0 5 t) := by
  have e1 : lib_perform 5 a b c d s = gd (rg a) (if 0 ≤ a then lib_root a s else mem_fail 4 s) := by
    unfold lib_perform
    rw [gr (by omega)]
    simp only [Int.reduceEq, ↓reduceIte, bd_id]
  have e2 : m_systemCall 0 5 t = m_math 5 t := by
    unfold m_systemCall
    rw [gr (by omega)]
    simp only [Int.reduceEq, ↓reduceIte, bd_id]
  refine PF_of e1 e2 ?_ ?_
  · unfold m_math m_math_115
    rw [gr (by omega)]
    simp only [Int.reduceEq, ↓reduceIte]
    rw [h0, gr (by omega), gr (by omega)]
    by_cases q : 0 ≤ a
    · obtain ⟨n, rfl⟩ : ∃ n : Nat, a = (n : Int) := ⟨a.toNat, by omega⟩
      obtain ⟨R1, R2⟩ := root_ok (s := s) (t := t) (v := n) (by omega)
      have rl : rtF n ≤ 181 := rtN_181 (by omega) 182 0 (by omega)
      rw [if_pos q, if_pos q, gr (by omega), if_pos q, R1, R2, bq]
      exact Ov_some h hg (VS1_eq ⟨rfl, by omega⟩)
    · rw [if_neg q, if_neg q]
      exact fl_r h hg (by decide) (fun s t _ _ => ⟨0, by show gd _ _ = _; rw [gr (by omega), if_neg q], by decide⟩)
  · intro r s' e
    rw [gr (by omega)] at e
    by_cases q : 0 ≤ a
    · rw [if_pos q] at e
      exact fr9 rfl (show md L_lib_root G_lib_root s s' from flib_root _ _ _ e)
    · rw [if_neg q] at e
      exact fl9 r s' e

theorem pf_6 (h : LB s t) (hg : gO s t) (ha : w16 a) (h0 : t 188 0 = a) : PF s (lib_perform 6 a b c d s) (m_systemCall 1 0 t) := by
  have e1 : lib_perform 6 a b c d s = mem_read a s := by
    unfold lib_perform
    rw [gr (by omega)]
    simp only [Int.reduceEq, ↓reduceIte, bd_id]
  have e2 : m_systemCall 1 0 t = m_memories 0 t := by
    unfold m_systemCall
    rw [gr (by omega)]
    simp only [Int.reduceEq, ↓reduceIte, bd_id]
  refine PF_of e1 e2 ?_ ?_
  · unfold m_memories
    rw [gr (by omega)]
    simp only [Int.reduceEq, ↓reduceIte, bd_id]
    rw [h0]
    exact Ov_mono (rd_ok1 h hg) (fun _ _ z => VS1_eq z)
  · exact rd9

theorem pf_7 (h : LB s t) (hg : gO s t) (ha : w16 a) (hb : w16 b) (h0 : t 188 0 = a) (h1 : t 188 1 = b) : PF s (lib_perform 7 a b c d s) (m_systemCall 1 1 t) := by
  have e1 : lib_perform 7 a b c d s = mem_write a b s := by
    unfold lib_perform
    rw [gr (by omega)]
    simp only [Int.reduceEq, ↓reduceIte, bd_id]
  have e2 : m_systemCall 1 1 t = m_memories 1 t := by
    unfold m_systemCall
    rw [gr (by omega)]
    simp only [Int.reduceEq, ↓reduceIte, bd_id]
  refine PF_of e1 e2 ?_ ?_
  · unfold m_memories
    rw [gr (by omega)]
    simp only [Int.reduceEq, ↓reduceIte, bd_id]
    rw [h0, h1]
    exact Ov_r0 (wr_ok1 h hg) (fun _ _ z => VS1_0 z)
  · exact fun r s' e => fr9 rfl (show md L_mem_write G_mem_write s s' from fmem_write _ _ _ _ e)

theorem pf_8 (h : LB s t) (hg : gO s t) (ha : w16 a) (h0 : t 188 0 = a) : PF s (lib_perform 8 a b c d s) (m_systemCall 1 2 t) := by
  have e1 : lib_perform 8 a b c d s = mem_allocate a s := by
    unfold lib_perform
    rw [gr (by omega)]
    simp only [Int.reduceEq, ↓reduceIte, bd_id]
  have e2 : m_systemCall 1 2 t = m_memories 2 t := by
    unfold m_systemCall
    rw [gr (by omega)]
    simp only [Int.reduceEq, ↓reduceIte, bd_id]
  refine PF_of e1 e2 ?_ ?_
  · unfold m_memories
    rw [gr (by omega)]
    simp only [Int.reduceEq, ↓reduceIte, bd_id]
    rw [h0]
    exact Ov_mono (mk_ok1 h hg ha) (fun _ _ z => VS1_eq ⟨z.1, by omega, by omega⟩)
  · exact al9

theorem pf_9 (h : LB s t) (hg : gO s t) (ha : w16 a) (h0 : t 188 0 = a) : PF s (lib_perform 9 a b c d s) (m_systemCall 1 3 t) := by
  have e1 : lib_perform 9 a b c d s = mem_release a s := by
    unfold lib_perform
    rw [gr (by omega)]
    simp only [Int.reduceEq, ↓reduceIte, bd_id]
  have e2 : m_systemCall 1 3 t = m_memories 3 t := by
    unfold m_systemCall
    rw [gr (by omega)]
    simp only [Int.reduceEq, ↓reduceIte, bd_id]
  refine PF_of e1 e2 ?_ ?_
  · unfold m_memories
    rw [gr (by omega)]
    simp only [Int.reduceEq, ↓reduceIte, bd_id]
    rw [h0]
    exact Ov_r0 (rel_ok1 h hg ha) (fun _ _ z => VS1_0 z)
  · exact rl9

theorem pf_10 (h : LB s t) (hg : gO s t) (ha : w16 a) (h0 : t 188 0 = a) : PF s (lib_perform 10 a b c d s) (m_systemCall 2 0 t) := by
  have e1 : lib_perform 10 a b c d s = gd (rg a) (if 1 ≤ a then mem_allocate a s else mem_fail 2 s) := by
    unfold lib_perform
    rw [gr (by omega)]
    simp only [Int.reduceEq, ↓reduceIte, bd_id]
  have e2 : m_systemCall 2 0 t = gd (rg (t 188 0)) (if 1 ≤ (t 188 0) then m_systemCall_89 0 t else bd (m_err 2 t) (fun _ s11 => m_systemCall_89 0 s11)) := by
    unfold m_systemCall
    rw [gr (by omega)]
    simp only [Int.reduceEq, ↓reduceIte, bd_id]
    exact gr (by omega)
  refine PF_of e1 e2 ?_ ?_
  · rw [h0, gr (by omega), gr (by omega)]
    by_cases q : 1 ≤ a
    · unfold m_systemCall_89
      rw [if_pos q, if_pos q, gr (by omega), if_pos rfl, kk99 hg, bd_id, h0]
      exact Ov_mono (mk_ok1 h hg ha) (fun _ _ z => VS1_eq ⟨z.1, by omega, by omega⟩)
    · rw [if_neg q, if_neg q]
      exact fl_r h hg (by decide) (fun s t _ hk => ⟨0, by unfold m_systemCall_89; rw [gr (by omega), if_pos rfl, hk.2, gr (by omega), if_neg (by omega)], by decide⟩)
  · intro r s' e
    rw [gr (by omega)] at e
    by_cases q : 1 ≤ a
    · rw [if_pos q] at e
      exact al9 r s' e
    · rw [if_neg q] at e
      exact fl9 r s' e

theorem pf_11 (h : LB s t) (hg : gO s t) (ha : w16 a) (h0 : t 188 0 = a) : PF s (lib_perform 11 a b c d s) (m_systemCall 2 1 t) := by
  have e1 : lib_perform 11 a b c d s = mem_release a s := by
    unfold lib_perform
    rw [gr (by omega)]
    simp only [Int.reduceEq, ↓reduceIte, bd_id]
  have e2 : m_systemCall 2 1 t = bd (m_drop (t 188 0) t) (fun _ s12 => m_systemCall_89 1 s12) := by
    unfold m_systemCall
    rw [gr (by omega)]
    simp only [Int.reduceEq, ↓reduceIte, bd_id]
    exact gr (by omega)
  refine PF_of e1 e2 ?_ ?_
  · have e3 : (fun (_ : Int) (s12 : iS) => m_systemCall_89 1 s12) = fun _ s12 => some (0, s12) := by
      funext _ s12
      unfold m_systemCall_89
      rw [gr (by omega), if_neg (by decide)]
    rw [h0, e3]
    exact Ov_r0 (rel_ok1 h hg ha) (fun _ _ z => VS1_0 z)
  · exact rl9

theorem pf_12 (h : LB s t) (hg : gO s t) (ha : w16 a) (h0 : t 188 0 = a) : PF s (lib_perform 12 a b c d s) (m_systemCall 3 0 t) := by
  have e1 : lib_perform 12 a b c d s = lib_newString a s := by
    unfold lib_perform
    rw [gr (by omega)]
    simp only [Int.reduceEq, ↓reduceIte, bd_id]
  have e2 : m_systemCall 3 0 t = m_strings 0 t := by
    unfold m_systemCall
    rw [gr (by omega)]
    simp only [Int.reduceEq, ↓reduceIte, bd_id]
  refine PF_of e1 e2 ?_ ?_
  · unfold m_strings
    rw [gr (by omega)]
    simp only [Int.reduceEq, ↓reduceIte, bd_id]
    rw [h0]
    exact Ov_mono (ns_ok1 h hg ha) (fun _ _ z => VS1_eq z)
  · exact fun r s' e => fr9 rfl (show md L_lib_newString G_lib_newString s s' from flib_newString _ _ _ e)

theorem pf_13 (h : LB s t) (hg : gO s t) (ha : w16 a) (h0 : t 188 0 = a) : PF s (lib_perform 13 a b c d s) (m_systemCall 3 1 t) := by
  have e1 : lib_perform 13 a b c d s = mem_read (a + 1) s := by
    unfold lib_perform
    rw [gr (by omega)]
    simp only [Int.reduceEq, ↓reduceIte, bd_id]
  have e2 : m_systemCall 3 1 t = m_strings 1 t := by
    unfold m_systemCall
    rw [gr (by omega)]
    simp only [Int.reduceEq, ↓reduceIte, bd_id]
  refine PF_of e1 e2 ?_ ?_
  · unfold m_strings
    rw [gr (by omega)]
    simp only [Int.reduceEq, ↓reduceIte, bd_id]
    rw [h0]
    exact Ov_mono (rd_ok1 h hg) (fun _ _ z => VS1_eq z)
  · exact rd9

theorem pf_14 (h : LB s t) (hg : gO s t) (ha : w16 a) (hb : w16 b) (h0 : t 188 0 = a) (h1 : t 188 1 = b) : PF s (lib_perform 14 a b c d s) (m_systemCall 3 2 t) := by
  have e1 : lib_perform 14 a b c d s = lib_charAt a b s := by
    unfold lib_perform
    rw [gr (by omega)]
    simp only [Int.reduceEq, ↓reduceIte, bd_id]
  have e2 : m_systemCall 3 2 t = m_strings 2 t := by
    unfold m_systemCall
    rw [gr (by omega)]
    simp only [Int.reduceEq, ↓reduceIte, bd_id]
  refine PF_of e1 e2 ?_ ?_
  · unfold m_strings
    rw [gr (by omega)]
    simp only [Int.reduceEq, ↓reduceIte, bd_id]
    rw [h0, h1]
    exact Ov_mono (ca_ok1 h hg hb) (fun _ _ z => VS1_eq z)
  · exact fun r s' e => fr9 rfl (show md L_lib_charAt G_lib_charAt s s' from flib_charAt _ _ _ _ e)

theorem pf_15 (h : LB s t) (hg : gO s t) (ha : w16 a) (hb : w16 b) (hc : w16 c) (h0 : t 188 0 = a) (h1 : t 188 1 = b) (h2 : t 188 2 = c) : PF s (lib_perform 15 a b c d s) (m_systemCall 3 3 t) := by
  have e1 : lib_perform 15 a b c d s = lib_setCharAt a b c s := by
    unfold lib_perform
    rw [gr (by omega)]
    simp only [Int.reduceEq, ↓reduceIte, bd_id]
  have e2 : m_systemCall 3 3 t = m_strings 3 t := by
    unfold m_systemCall
    rw [gr (by omega)]
    simp only [Int.reduceEq, ↓reduceIte, bd_id]
  refine PF_of e1 e2 ?_ ?_
  · unfold m_strings
    rw [gr (by omega)]
    simp only [Int.reduceEq, ↓reduceIte, bd_id]
    exact Ov_mono (sc_ok1 h hg ha hb h0 h1 h2) (fun _ _ z => VS1_0' z)
  · exact fun r s' e => fr9 rfl (show md L_lib_setCharAt G_lib_setCharAt s s' from flib_setCharAt _ _ _ _ _ e)

theorem pf_16 (h : LB s t) (hg : gO s t) (ha : w16 a) (hb : w16 b) (h0 : t 188 0 = a) (h1 : t 188 1 = b) : PF s (lib_perform 16 a b c d s) (m_systemCall 3 4 t) := by
  have e1 : lib_perform 16 a b c d s = lib_appendChar a b s := by
    unfold lib_perform
    rw [gr (by omega)]
    simp only [Int.reduceEq, ↓reduceIte, bd_id]
  have e2 : m_systemCall 3 4 t = m_strings 4 t := by
    unfold m_systemCall
    rw [gr (by omega)]
    simp only [Int.reduceEq, ↓reduceIte, bd_id]
  refine PF_of e1 e2 ?_ ?_
  · unfold m_strings
    rw [gr (by omega)]
    simp only [Int.reduceEq, ↓reduceIte, bd_id]
    rw [h0, h1]
    rcases ap_ok1 (b := b) h hg ha with ⟨r, r', s', t', e1, e2, e3, e4, e5⟩ | ⟨r, r', s', t', e1, e2, e3, e4, e5⟩
    · exact Or.inl ⟨r, a, s', t', e1, by rw [e2, bq], VS1_eq ⟨e3.1, by have := e3.1; omega⟩, e4, e5⟩
    · exact Or.inr ⟨r, a, s', t', e1, by rw [e2, bq], ⟨e3.1, by omega⟩, e4, e5⟩
  · exact fun r s' e => fr9 rfl (show md L_lib_appendChar G_lib_appendChar s s' from flib_appendChar _ _ _ _ e)

theorem pf_17 (h : LB s t) (hg : gO s t) (ha : w16 a) (h0 : t 188 0 = a) : PF s (lib_perform 17 a b c d s) (m_systemCall 3 5 t) := by
  have e1 : lib_perform 17 a b c d s = lib_eraseLastChar a s := by
    unfold lib_perform
    rw [gr (by omega)]
    simp only [Int.reduceEq, ↓reduceIte, bd_id]
  have e2 : m_systemCall 3 5 t = m_strings 5 t := by
    unfold m_systemCall
    rw [gr (by omega)]
    simp only [Int.reduceEq, ↓reduceIte, bd_id]
  refine PF_of e1 e2 ?_ ?_
  · unfold m_strings
    rw [gr (by omega)]
    simp only [Int.reduceEq, ↓reduceIte, bd_id]
    exact Ov_mono (er_ok1 h hg ha h0) (fun _ _ z => VS1_0' z)
  · exact fun r s' e => fr9 rfl (show md L_lib_eraseLastChar G_lib_eraseLastChar s s' from flib_eraseLastChar _ _ _ e)

theorem pf_18 (h : LB s t) (hg : gO s t) (ha : w16 a) (h0 : t 188 0 = a) : PF s (lib_perform 18 a b c d s) (m_systemCall 3 6 t) := by
  have e1 : lib_perform 18 a b c d s = lib_intValue a s := by
    unfold lib_perform
    rw [gr (by omega)]
    simp only [Int.reduceEq, ↓reduceIte, bd_id]
  have e2 : m_systemCall 3 6 t = m_strings 6 t := by
    unfold m_systemCall
    rw [gr (by omega)]
    simp only [Int.reduceEq, ↓reduceIte, bd_id]
  refine PF_of e1 e2 ?_ ?_
  · unfold m_strings
    rw [gr (by omega)]
    simp only [Int.reduceEq, ↓reduceIte, bd_id]
    rw [h0]
    exact Ov_mono (iv_ok1 h hg ha) (fun _ _ z => z)
  · exact fun r s' e => fr9 rfl (show md L_lib_intValue G_lib_intValue s s' from flib_intValue _ _ _ e)

theorem pf_19 (h : LB s t) (hg : gO s t) (ha : w16 a) (hb : w16 b) (h0 : t 188 0 = a) (h1 : t 188 1 = b) : PF s (lib_perform 19 a b c d s) (m_systemCall 3 7 t) := by
  have e1 : lib_perform 19 a b c d s = lib_setInt a b s := by
    unfold lib_perform
    rw [gr (by omega)]
    simp only [Int.reduceEq, ↓reduceIte, bd_id]
  have e2 : m_systemCall 3 7 t = m_strings 7 t := by
    unfold m_systemCall
    rw [gr (by omega)]
    simp only [Int.reduceEq, ↓reduceIte, bd_id]
  refine PF_of e1 e2 ?_ ?_
  · unfold m_strings
    rw [gr (by omega)]
    simp only [Int.reduceEq, ↓reduceIte, bd_id]
    rw [h0, h1]
    exact Ov_r0 (si_ok1 h hg ha hb) (fun _ _ z => VS1_0 z)
  · exact fun r s' e => fr9 rfl (show md L_lib_setInt G_lib_setInt s s' from flib_setInt _ _ _ _ e)

theorem pf_20 (h : LB s t) (hg : gO s t) (ha : w16 a) (h0 : t 188 0 = a) : PF s (lib_perform 20 a b c d s) (m_systemCall 3 8 t) := by
  have e1 : lib_perform 20 a b c d s = mem_release a s := by
    unfold lib_perform
    rw [gr (by omega)]
    simp only [Int.reduceEq, ↓reduceIte, bd_id]
  have e2 : m_systemCall 3 8 t = m_strings 8 t := by
    unfold m_systemCall
    rw [gr (by omega)]
    simp only [Int.reduceEq, ↓reduceIte, bd_id]
  refine PF_of e1 e2 ?_ ?_
  · unfold m_strings
    rw [gr (by omega)]
    simp only [Int.reduceEq, ↓reduceIte, bd_id]
    rw [h0]
    exact Ov_r0 (rel_ok1 h hg ha) (fun _ _ z => VS1_0 z)
  · exact rl9

theorem pf_21 (h : LB s t) (hg : gO s t) : PF s (lib_perform 21 a b c d s) (m_systemCall 3 9 t) := by
  have e1 : lib_perform 21 a b c d s = some (10, s) := by
    unfold lib_perform
    rw [gr (by omega)]
    simp only [Int.reduceEq, ↓reduceIte, bd_id]
  have e2 : m_systemCall 3 9 t = m_strings 9 t := by
    unfold m_systemCall
    rw [gr (by omega)]
    simp only [Int.reduceEq, ↓reduceIte, bd_id]
  refine PF_of e1 e2 ?_ ?_
  · unfold m_strings
    rw [gr (by omega)]
    simp only [Int.reduceEq, ↓reduceIte]
    exact Ov_some h hg (VS1_eq ⟨rfl, by decide⟩)
  · exact som9

theorem pf_22 (h : LB s t) (hg : gO s t) : PF s (lib_perform 22 a b c d s) (m_systemCall 3 10 t) := by
  have e1 : lib_perform 22 a b c d s = some (34, s) := by
    unfold lib_perform
    rw [gr (by omega)]
    simp only [Int.reduceEq, ↓reduceIte, bd_id]
  have e2 : m_systemCall 3 10 t = m_strings 10 t := by
    unfold m_systemCall
    rw [gr (by omega)]
    simp only [Int.reduceEq, ↓reduceIte, bd_id]
  refine PF_of e1 e2 ?_ ?_
  · unfold m_strings
    rw [gr (by omega)]
    simp only [Int.reduceEq, ↓reduceIte]
    exact Ov_some h hg (VS1_eq ⟨rfl, by decide⟩)
  · exact som9

theorem pf_23 (h : LB s t) (hg : gO s t) : PF s (lib_perform 23 a b c d s) (m_systemCall 3 11 t) := by
  have e1 : lib_perform 23 a b c d s = some (8, s) := by
    unfold lib_perform
    rw [gr (by omega)]
    simp only [Int.reduceEq, ↓reduceIte, bd_id]
  have e2 : m_systemCall 3 11 t = m_strings 11 t := by
    unfold m_systemCall
    rw [gr (by omega)]
    simp only [Int.reduceEq, ↓reduceIte, bd_id]
  refine PF_of e1 e2 ?_ ?_
  · unfold m_strings
    rw [gr (by omega)]
    simp only [Int.reduceEq, ↓reduceIte]
    exact Ov_some h hg (VS1_eq ⟨rfl, by decide⟩)
  · exact som9

theorem pf_24 (h : LB s t) (hg : gO s t) (ha : w16 a) (h0 : t 188 0 = a) : PF s (lib_perform 24 a b c d s) (m_systemCall 4 0 t) := by
  have e1 : lib_perform 24 a b c d s = lib_printChar a s := by
    unfold lib_perform
    rw [gr (by omega)]
    simp only [Int.reduceEq, ↓reduceIte, bd_id]
  have e2 : m_systemCall 4 0 t = bd (m_outputs 0 t) (fun _ s16 => some (0, s16)) := by
    unfold m_systemCall
    rw [gr (by omega)]
    simp only [Int.reduceEq, ↓reduceIte, bd_id]
  refine PF_of e1 e2 ?_ ?_
  · have e3 : m_outputs 0 t = bd (m_print (t 188 0) t) (fun _ s3 => some (0, s3)) := by
      unfold m_outputs m_outputs_14 m_outputs_29 m_outputs_44
      simp only [Int.reduceEq, ↓reduceIte]
      have g1 : ∀ {α : Type} (x : Option α), gd (rg (0 : Int)) x = x := fun x => gr (by omega)
      simp only [g1]
    rw [e3, h0]
    obtain ⟨s1, t1, p1, p2, p3, p4, _⟩ := pr_ok1 (v := a) h hg
    rw [p1, p2, bq, bq]
    exact Ov_some p3 p4 (VS1_0 ⟨rfl, rfl⟩)
  · exact fun r s' e => fr9 rfl (show md L_lib_printChar G_lib_printChar s s' from flib_printChar _ _ _ e)

theorem pf_25 (h : LB s t) (hg : gO s t) (ha : w16 a) (h0 : t 188 0 = a) : PF s (lib_perform 25 a b c d s) (m_systemCall 4 1 t) := by
  have e1 : lib_perform 25 a b c d s = lib_printString a s := by
    unfold lib_perform
    rw [gr (by omega)]
    simp only [Int.reduceEq, ↓reduceIte, bd_id]
  have e2 : m_systemCall 4 1 t = bd (m_outputs 1 t) (fun _ s16 => some (0, s16)) := by
    unfold m_systemCall
    rw [gr (by omega)]
    simp only [Int.reduceEq, ↓reduceIte, bd_id]
  refine PF_of e1 e2 ?_ ?_
  · have e3 : m_outputs 1 t = bd (m_printString (t 188 0) t) (fun _ s3 => some (0, s3)) := by
      unfold m_outputs m_outputs_14 m_outputs_29 m_outputs_44
      simp only [Int.reduceEq, ↓reduceIte]
      have g1 : ∀ {α : Type} (x : Option α), gd (rg (1 : Int)) x = x := fun x => gr (by omega)
      simp only [g1]
    rw [e3, h0]
    exact Ov_r0 (V := fun r r' => r = 0 ∧ r' = 0) (Ov_r0 (ps_ok1 h hg ha) (fun _ _ z => ⟨z.1, rfl⟩)) (fun _ _ z => VS1_0 z)
  · exact fun r s' e => fr9 rfl (show md L_lib_printString G_lib_printString s s' from flib_printString _ _ _ e)

theorem pf_26 (h : LB s t) (hg : gO s t) (ha : w16 a) (h0 : t 188 0 = a) : PF s (lib_perform 26 a b c d s) (m_systemCall 4 2 t) := by
  have e1 : lib_perform 26 a b c d s = lib_printInt a s := by
    unfold lib_perform
    rw [gr (by omega)]
    simp only [Int.reduceEq, ↓reduceIte, bd_id]
  have e2 : m_systemCall 4 2 t = bd (m_outputs 2 t) (fun _ s16 => some (0, s16)) := by
    unfold m_systemCall
    rw [gr (by omega)]
    simp only [Int.reduceEq, ↓reduceIte, bd_id]
  refine PF_of e1 e2 ?_ ?_
  · have e3 : m_outputs 2 t = bd (m_printInt (t 188 0) t) (fun _ s3 => some (0, s3)) := by
      unfold m_outputs m_outputs_14 m_outputs_29 m_outputs_44
      simp only [Int.reduceEq, ↓reduceIte]
      have g1 : ∀ {α : Type} (x : Option α), gd (rg (2 : Int)) x = x := fun x => gr (by omega)
      simp only [g1]
    rw [e3, h0]
    exact Ov_r0 (V := fun r r' => r = 0 ∧ r' = 0) (Ov_r0 (pi_ok1 h hg ha) (fun _ _ z => ⟨z.1, rfl⟩)) (fun _ _ z => VS1_0 z)
  · exact fun r s' e => fr9 rfl (show md L_lib_printInt G_lib_printInt s s' from flib_printInt _ _ _ e)

theorem pf_27 (h : LB s t) (hg : gO s t) : PF s (lib_perform 27 a b c d s) (m_systemCall 4 3 t) := by
  have e1 : lib_perform 27 a b c d s = lib_printChar 10 s := by
    unfold lib_perform
    rw [gr (by omega)]
    simp only [Int.reduceEq, ↓reduceIte, bd_id]
  have e2 : m_systemCall 4 3 t = bd (m_outputs 3 t) (fun _ s16 => some (0, s16)) := by
    unfold m_systemCall
    rw [gr (by omega)]
    simp only [Int.reduceEq, ↓reduceIte, bd_id]
  refine PF_of e1 e2 ?_ ?_
  · have e3 : m_outputs 3 t = bd (m_print 10 t) (fun _ s3 => some (0, s3)) := by
      unfold m_outputs m_outputs_14 m_outputs_29 m_outputs_44
      simp only [Int.reduceEq, ↓reduceIte]
      have g1 : ∀ {α : Type} (x : Option α), gd (rg (3 : Int)) x = x := fun x => gr (by omega)
      simp only [g1]
    rw [e3]
    obtain ⟨s1, t1, p1, p2, p3, p4, _⟩ := pr_ok1 (v := 10) h hg
    rw [p1, p2, bq, bq]
    exact Ov_some p3 p4 (VS1_0 ⟨rfl, rfl⟩)
  · exact fun r s' e => fr9 rfl (show md L_lib_printChar G_lib_printChar s s' from flib_printChar _ _ _ e)

theorem pf_28 (h : LB s t) (hg : gO s t) : PF s (lib_perform 28 a b c d s) (m_systemCall 5 0 t) := by
  have e1 : lib_perform 28 a b c d s = lib_nextKey s := by
    unfold lib_perform
    rw [gr (by omega)]
    simp only [Int.reduceEq, ↓reduceIte, bd_id]
  have e2 : m_systemCall 5 0 t = m_keyboard 0 t := by
    unfold m_systemCall
    rw [gr (by omega)]
    simp only [Int.reduceEq, ↓reduceIte, bd_id]
  refine PF_of e1 e2 ?_ ?_
  · have ky := h.2.2.2.1
    obtain ⟨k1, k2, k3, k4, k5⟩ := ky
    obtain ⟨N1, N2⟩ := nk_ok h
    unfold m_keyboard m_keyboard_40
    simp only [Int.reduceEq, ↓reduceIte]
    rw [gr (by omega), gr (by omega), gr (by omega), N1]
    by_cases q : s 48 5 ≤ s 48 6
    · rw [if_pos q, if_pos (by omega), gr (by omega)]
      exact Ov_some h hg (VS1_eq ⟨rfl, by decide⟩)
    · rw [if_neg q] at N2
      rw [if_neg q, if_neg (by omega), gd_pos (by omega), gr (by omega), ← k3, ← (k5 (s 48 6).toNat (by omega)).1]
      exact Ov_some h hg (VS1_eq ⟨rfl, N2⟩)
  · exact fun r s' e => fr9 rfl (show md L_lib_nextKey G_lib_nextKey s s' from flib_nextKey _ _ e)

theorem pf_29 (h : LB s t) (hg : gO s t) : PF s (lib_perform 29 a b c d s) (m_systemCall 5 1 t) := by
  have e1 : lib_perform 29 a b c d s = lib_readChar s := by
    unfold lib_perform
    rw [gr (by omega)]
    simp only [Int.reduceEq, ↓reduceIte, bd_id]
  have e2 : m_systemCall 5 1 t = m_keyboard 1 t := by
    unfold m_systemCall
    rw [gr (by omega)]
    simp only [Int.reduceEq, ↓reduceIte, bd_id]
  refine PF_of e1 e2 ?_ ?_
  · have ky := h.2.2.2.1
    obtain ⟨k1, k2, k3, k4, k5⟩ := ky
    obtain ⟨N1, N2⟩ := nk_ok h
    unfold m_keyboard m_keyboard_40
    simp only [Int.reduceEq, ↓reduceIte]
    unfold lib_readChar
    rw [gr (by omega), gr (by omega), gr (by omega), N1, bq, gr (by omega), gr (by omega)]
    by_cases q : s 48 5 ≤ s 48 6
    · rw [if_pos q, if_pos q, if_pos (by omega), gr (by omega), gr (by omega), gr (by omega), if_pos (by omega)]
      exact Ov_some h hg (VS1_eq ⟨rfl, by decide⟩)
    · rw [if_neg q] at N2
      rw [if_neg q, if_neg q, lt_eq, if_neg (by omega), gd_pos (by omega), gr (by omega), gr (by omega), gr (by omega), if_neg (by omega), lt_eq, show t 186 (t 121 103).toNat = s 50 (s 48 6).toNat by rw [← k3]; exact (k5 (s 48 6).toNat (by omega)).1.symm]
      exact Ov_some (LB_key h q) ⟨by rw [up_ne (by omega)]; exact hg.1, by rw [up_ne (by omega)]; exact hg.2⟩ (VS1_eq ⟨rfl, N2⟩)
  · exact fun r s' e => fr9 rfl (show md L_lib_readChar G_lib_readChar s s' from flib_readChar _ _ e)

theorem pf_30 (h : LB s t) (hg : gO s t) (ha : w16 a) (h0 : t 188 0 = a) : PF s (lib_perform 30 a b c d s) (m_systemCall 5 2 t) := by
  have e1 : lib_perform 30 a b c d s = lib_readLine a s := by
    unfold lib_perform
    rw [gr (by omega)]
    simp only [Int.reduceEq, ↓reduceIte, bd_id]
  have e2 : m_systemCall 5 2 t = m_keyboard 2 t := by
    unfold m_systemCall
    rw [gr (by omega)]
    simp only [Int.reduceEq, ↓reduceIte, bd_id]
  refine PF_of e1 e2 ?_ ?_
  · unfold m_keyboard
    rw [gr (by omega)]
    simp only [Int.reduceEq, ↓reduceIte, bd_id]
    rw [h0]
    exact Ov_mono (rl_ok1 h hg ha) (fun _ _ z => VS1_eq z)
  · exact fun r s' e => fr9 rfl (show md L_lib_readLine G_lib_readLine s s' from flib_readLine _ _ _ e)

theorem pf_31 (h : LB s t) (hg : gO s t) : PF s (lib_perform 31 a b c d s) (m_systemCall 6 0 t) := by
  have e1 : lib_perform 31 a b c d s = mem_clearScreen s := by
    unfold lib_perform
    rw [gr (by omega)]
    simp only [Int.reduceEq, ↓reduceIte, bd_id]
  have e2 : m_systemCall 6 0 t = bd (m_screen 0 t) (fun _ s20 => some (0, s20)) := by
    unfold m_systemCall
    rw [gr (by omega)]
    simp only [Int.reduceEq, ↓reduceIte, bd_id]
  refine PF_of e1 e2 ?_ ?_
  · obtain ⟨s1, t1, p1, p2, p3, p4⟩ := cls_lp 128 0 s t h hg (by omega)
    have e3 : m_screen 0 t = some (0, t1) := by
      unfold m_screen
      rw [gr (by omega), if_pos rfl]
      exact p2
    have e4 : mem_clearScreen s = some (0, s1) := p1
    rw [e3, e4, bq]
    exact Ov_some p3 p4 (VS1_0 ⟨rfl, rfl⟩)
  · exact fun r s' e => fr9 rfl (show md L_mem_clearScreen G_mem_clearScreen s s' from fmem_clearScreen _ _ e)

theorem pf_32 (h : LB s t) (hg : gO s t) (ha : w16 a) (h0 : t 188 0 = a) : PF s (lib_perform 32 a b c d s) (m_systemCall 6 1 t) := by
  have e1 : lib_perform 32 a b c d s = lib_setColor a s := by
    unfold lib_perform
    rw [gr (by omega)]
    simp only [Int.reduceEq, ↓reduceIte, bd_id]
  have e2 : m_systemCall 6 1 t = bd (m_screen 1 t) (fun _ s20 => some (0, s20)) := by
    unfold m_systemCall
    rw [gr (by omega)]
    simp only [Int.reduceEq, ↓reduceIte, bd_id]
  refine PF_of e1 e2 ?_ ?_
  · unfold lib_setColor lib_setColor_10 m_screen m_screen_76
    simp only [Int.reduceEq, ↓reduceIte]
    rw [gr (by omega), h0, gr (by omega), gr (by omega)]
    by_cases q : a = 0
    · rw [if_pos q, if_pos q, gd_pos (Or.inr trivial), gd_pos (Or.inl trivial), lt_eq, lt_eq, bq]
      exact Ov_some (LB_col (x := 1) h (Or.inr rfl)) ⟨by rw [up_ne (by omega)]; exact hg.1, by rw [up_ne (by omega)]; exact hg.2⟩ (VS1_0 ⟨rfl, rfl⟩)
    · rw [if_neg q, if_neg q, gd_pos (Or.inl trivial), gd_pos (Or.inr trivial), lt_eq, lt_eq, bq]
      exact Ov_some (LB_col (x := 0) h (Or.inl rfl)) ⟨by rw [up_ne (by omega)]; exact hg.1, by rw [up_ne (by omega)]; exact hg.2⟩ (VS1_0 ⟨rfl, rfl⟩)
  · exact fun r s' e => fr9 rfl (show md L_lib_setColor G_lib_setColor s s' from flib_setColor _ _ _ e)

theorem pf_33 (h : LB s t) (hg : gO s t) (ha : w16 a) (hb : w16 b) (h0 : t 188 0 = a) (h1 : t 188 1 = b) : PF s (lib_perform 33 a b c d s) (m_systemCall 6 2 t) := by
  have e1 : lib_perform 33 a b c d s = bd (lib_isPoint a b s) (fun r75 s75 => gd (rg r75) (if r75 = 0 then mem_fail 7 s75 else lib_drawPoint a b s75)) := by
    unfold lib_perform
    rw [gr (by omega)]
    simp only [Int.reduceEq, ↓reduceIte, bd_id]
  have e2 : m_systemCall 6 2 t = bd (m_screen 2 t) (fun _ s20 => some (0, s20)) := by
    unfold m_systemCall
    rw [gr (by omega)]
    simp only [Int.reduceEq, ↓reduceIte, bd_id]
  refine PF_of e1 e2 ?_ ?_
  · have I := ip_ok (s := s) (t := t) (x := a) (y := b) (by omega) (by omega)
    have e3 : m_screen 2 t = if 0 ≤ a ∧ a < 64 ∧ 0 ≤ b ∧ b < 32 then bd (m_point a b t) (fun _ s11 => some (0, s11)) else bd (m_err 7 t) (fun _ s10 => some (0, s10)) := by
      unfold m_screen
      simp only [Int.reduceEq, ↓reduceIte]
      rw [gr (by omega), h0, h1, I.2, bq]
      by_cases q : 0 ≤ a ∧ a < 64 ∧ 0 ≤ b ∧ b < 32
      · rw [if_pos q, gr (by omega), if_neg (by decide), if_pos q, h0, h1]
      · rw [if_neg q, gr (by omega), if_pos rfl, if_neg q]
    rw [e3, I.1, bq]
    by_cases q : 0 ≤ a ∧ a < 64 ∧ 0 ≤ b ∧ b < 32
    · obtain ⟨x, rfl⟩ : ∃ x : Nat, a = (x : Int) := ⟨a.toNat, by omega⟩
      obtain ⟨y, rfl⟩ : ∃ x : Nat, b = (x : Int) := ⟨b.toNat, by omega⟩
      have h8 := LB_8 h
      rw [if_pos q, if_pos q, gr (by omega), if_neg (by decide), dp_ok (by omega) (by omega) h8.1, rp_ok (by omega) (by omega) h8.2.1, bq, bq]
      exact Ov_some (LB_pt h (by omega) (by omega)) (gO_pt hg) (VS1_0 ⟨rfl, rfl⟩)
    · rw [if_neg q, if_neg q, gr (by omega), if_pos rfl]
      have z := fl_r (g := fun s => some (0, s)) h hg (n := 7) (by decide) (DRf_some (by decide))
      rcases z with ⟨r, r', s1, t1, f1, f2, f3, f4, f5⟩ | ⟨r, r', s1, t1, f1, f2, f3, f4, f5⟩
      · exact Or.inl ⟨r, 0, s1, t1, f1, by rw [f2, bq], by
          have : r' = 0 := by
            cases hm : m_err 7 t with
            | none => rw [hm] at f2; cases f2
            | some w => obtain ⟨w1, w2⟩ := w; rw [hm, bq] at f2; exact (congrArg Prod.fst (Option.some.inj f2)).symm
          rw [← this]; exact f3, f4, f5⟩
      · exact Or.inr ⟨r, 0, s1, t1, f1, by rw [f2, bq], ⟨f3.1, by decide⟩, f4, f5⟩
  · intro r s' e
    have I := ip_ok (s := s) (t := t) (x := a) (y := b) (by omega) (by omega)
    rw [I.1, bq] at e
    by_cases q : 0 ≤ a ∧ a < 64 ∧ 0 ≤ b ∧ b < 32
    · rw [if_pos q, gr (by omega), if_neg (by decide)] at e
      exact fr9 rfl (show md L_lib_drawPoint G_lib_drawPoint s s' from flib_drawPoint _ _ _ _ e)
    · rw [if_neg q, gr (by omega), if_pos rfl] at e
      exact fl9 r s' e

theorem pf_34 (h : LB s t) (hg : gO s t) (ha : w16 a) (hb : w16 b) (hc : w16 c) (hd : w16 d) (h0 : t 188 0 = a) (h1 : t 188 1 = b) (h2 : t 188 2 = c) (h3 : t 188 3 = d) : PF s (lib_perform 34 a b c d s) (m_systemCall 6 3 t) := by
  have e1 : lib_perform 34 a b c d s = lib_drawLine a b c d s := by
    unfold lib_perform
    rw [gr (by omega)]
    simp only [Int.reduceEq, ↓reduceIte, bd_id]
  have e2 : m_systemCall 6 3 t = bd (m_screen 3 t) (fun _ s20 => some (0, s20)) := by
    unfold m_systemCall
    rw [gr (by omega)]
    simp only [Int.reduceEq, ↓reduceIte, bd_id]
  refine PF_of e1 e2 ?_ ?_
  · have e3 : m_screen 3 t = bd (m_line (t 188 0) (t 188 1) (t 188 2) (t 188 3) t) (fun _ s13 => some (0, s13)) := by
      unfold m_screen
      simp only [Int.reduceEq, ↓reduceIte]
      rw [gr (by omega)]
    rw [e3, h0, h1, h2, h3]
    exact Ov_r0 (V := fun r r' => r = 0 ∧ r' = 0) (Ov_r0 (ln_ok1 h hg ha hb hc hd) (fun _ _ z => ⟨z.1, rfl⟩)) (fun _ _ z => VS1_0 z)
  · exact fun r s' e => fr9 rfl (show md L_lib_drawLine G_lib_drawLine s s' from flib_drawLine _ _ _ _ _ _ e)

theorem pf_35 (h : LB s t) (hg : gO s t) (ha : w16 a) (hb : w16 b) (hc : w16 c) (hd : w16 d) (h0 : t 188 0 = a) (h1 : t 188 1 = b) (h2 : t 188 2 = c) (h3 : t 188 3 = d) : PF s (lib_perform 35 a b c d s) (m_systemCall 6 4 t) := by
  have e1 : lib_perform 35 a b c d s = lib_drawRectangle a b c d s := by
    unfold lib_perform
    rw [gr (by omega)]
    simp only [Int.reduceEq, ↓reduceIte, bd_id]
  have e2 : m_systemCall 6 4 t = bd (m_screen 4 t) (fun _ s20 => some (0, s20)) := by
    unfold m_systemCall
    rw [gr (by omega)]
    simp only [Int.reduceEq, ↓reduceIte, bd_id]
  refine PF_of e1 e2 ?_ ?_
  · have e3 : m_screen 4 t = bd (m_rectangle (t 188 0) (t 188 1) (t 188 2) (t 188 3) t) (fun _ s13 => some (0, s13)) := by
      unfold m_screen
      simp only [Int.reduceEq, ↓reduceIte]
      rw [gr (by omega)]
    rw [e3, h0, h1, h2, h3]
    exact Ov_r0 (V := fun r r' => r = 0 ∧ r' = 0) (Ov_r0 (rc_ok1 h hg ha hb hc hd) (fun _ _ z => ⟨z.1, rfl⟩)) (fun _ _ z => VS1_0 z)
  · exact fun r s' e => fr9 rfl (show md L_lib_drawRectangle G_lib_drawRectangle s s' from flib_drawRectangle _ _ _ _ _ _ e)

theorem pf_36 (h : LB s t) (hg : gO s t) (ha : w16 a) (hb : w16 b) (hc : w16 c) (h0 : t 188 0 = a) (h1 : t 188 1 = b) (h2 : t 188 2 = c) : PF s (lib_perform 36 a b c d s) (m_systemCall 6 5 t) := by
  have e1 : lib_perform 36 a b c d s = lib_drawCircle a b c s := by
    unfold lib_perform
    rw [gr (by omega)]
    simp only [Int.reduceEq, ↓reduceIte, bd_id]
  have e2 : m_systemCall 6 5 t = bd (m_screen 5 t) (fun _ s20 => some (0, s20)) := by
    unfold m_systemCall
    rw [gr (by omega)]
    simp only [Int.reduceEq, ↓reduceIte, bd_id]
  refine PF_of e1 e2 ?_ ?_
  · have e3 : m_screen 5 t = bd (m_circle (t 188 0) (t 188 1) (t 188 2) t) (fun _ s13 => some (0, s13)) := by
      unfold m_screen
      simp only [Int.reduceEq, ↓reduceIte]
      rw [gr (by omega)]
    rw [e3, h0, h1, h2]
    exact Ov_r0 (V := fun r r' => r = 0 ∧ r' = 0) (Ov_r0 (ci_ok1 h hg ha hb hc) (fun _ _ z => ⟨z.1, rfl⟩)) (fun _ _ z => VS1_0 z)
  · exact fun r s' e => fr9 rfl (show md L_lib_drawCircle G_lib_drawCircle s s' from flib_drawCircle _ _ _ _ _ e)

theorem pf_38 (h : LB s t) (hg : gO s t) (ha : w16 a) (h0 : t 188 0 = a) : PF s (lib_perform 38 a b c d s) (m_systemCall 7 1 t) := by
  have e1 : lib_perform 38 a b c d s = mem_fail a s := by
    unfold lib_perform
    rw [gr (by omega)]
    simp only [Int.reduceEq, ↓reduceIte, bd_id]
  have e2 : m_systemCall 7 1 t = m_systemCall_159 1 t := by
    unfold m_systemCall
    rw [gr (by omega)]
    simp only [Int.reduceEq, ↓reduceIte, bd_id]
    exact gr (by omega)
  refine PF_of e1 e2 ?_ ?_
  · have e3 : m_systemCall_159 1 t = bd (m_err a t) (fun _ s3 => some (0, s3)) := by
      unfold m_systemCall_159 m_systemCall_174
      simp only [Int.reduceEq, ↓reduceIte]
      rw [gr (by omega), h0]
      rfl
    rw [e3]
    exact fl_r h hg ha (DRf_some (by decide))
  · exact fl9

theorem pf_39 (h : LB s t) (hg : gO s t) (ha : w16 a) (h0 : t 188 0 = a) : PF s (lib_perform 39 a b c d s) (m_systemCall 7 2 t) := by
  have e1 : lib_perform 39 a b c d s = gd (rg a) (if 1 ≤ a then some (0, s) else mem_fail 1 s) := by
    unfold lib_perform
    rw [gr (by omega)]
    simp only [Int.reduceEq, ↓reduceIte, bd_id]
  have e2 : m_systemCall 7 2 t = m_systemCall_159 2 t := by
    unfold m_systemCall
    rw [gr (by omega)]
    simp only [Int.reduceEq, ↓reduceIte, bd_id]
    exact gr (by omega)
  refine PF_of e1 e2 ?_ ?_
  · have e3 : m_systemCall_159 2 t = if 1 ≤ a then some (0, t) else bd (m_err 1 t) (fun _ s5 => some (0, s5)) := by
      unfold m_systemCall_159 m_systemCall_174
      simp only [Int.reduceEq, ↓reduceIte]
      rw [gr (by omega), gr (by omega), h0, gr (by omega)]
    rw [e3, gr (by omega)]
    by_cases q : 1 ≤ a
    · rw [if_pos q, if_pos q]
      exact Ov_some h hg (VS1_0 ⟨rfl, rfl⟩)
    · rw [if_neg q, if_neg q]
      exact fl_r h hg (by decide) (DRf_some (by decide))
  · intro r s' e
    rw [gr (by omega)] at e
    by_cases q : 1 ≤ a
    · rw [if_pos q] at e
      exact som9 r s' e
    · rw [if_neg q] at e
      exact fl9 r s' e

/-- the end, told by the program -/
theorem pf_37 (hg : gO s t) : lib_perform 37 a b c d s = some (0, up s 48 9 1) ∧ m_systemCall 7 0 t = some (0, up t 121 99 0) := by
  constructor
  · unfold lib_perform lib_halt
    rw [gr (by omega)]
    simp only [Int.reduceEq, ↓reduceIte, bd_id]
    rw [lt_eq]
  · unfold m_systemCall m_systemCall_159 m_systemCall_174
    rw [gr (by omega)]
    simp only [Int.reduceEq, ↓reduceIte]
    rw [gr (by omega), kk99 hg, lt_eq, gr (by omega), gr (by omega)]
end LBm
