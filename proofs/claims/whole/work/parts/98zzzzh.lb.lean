/-! the system's subs: the number that a string tells -/
section LBh
variable {s s' t t' : iS} {a b v x y : Int} {V : Int → Int → Prop}
theorem dg_ok (hv : w16 v) : x_isDigit v s = some (if 48 ≤ v ∧ v ≤ 57 then 1 else 0, s) := by
  unfold x_isDigit
  rw [gr (by omega)]
  by_cases c : v < 48
  · rw [if_pos c, if_neg (by omega)]
  · rw [if_neg c]
    by_cases c2 : 57 < v
    · rw [if_pos c2, if_neg (by omega)]
    · rw [if_neg c2, if_pos (by omega)]
theorem i_s_neg {v : Int} : w16 (i_s v) := i_s_rg v
theorem iv112 {m : Int} (hm : m = 0 ∨ m = 1) : lib_intValue_112 m v s = some (i_s (if m = 0 then v else -v), s) := by
  unfold lib_intValue_112
  rw [gr (by omega)]
  split <;> rfl
theorem iv134 {m : Int} (hm : m = 0 ∨ m = 1) : m_intValue_134 m v t = some ((if m = 0 then v else -v), t) := by
  unfold m_intValue_134
  rw [gr (by omega)]
  split <;> rfl
theorem iv50_e {m len j : Int} {e : (Int × iS) ⊕ (Int × iS)} (h : lib_intValue_50b a len m v j s = some (.inr e)) (he : e = .inl (v, s) ∨ e = .inr (v, s)) (hm : m = 0 ∨ m = 1) : lib_intValue_50 a len m v j s = some (i_s (if m = 0 then v else -v), s) := by
  unfold lib_intValue_50
  rw [lp_end (f := fun l : Int × Int × iS => lib_intValue_50b a len m (l.1) (l.2.1) (l.2.2)) (l := (v, j, s)) (e := e) h, bn]
  rcases he with q | q <;> rw [q]
  · show lib_intValue_89 m v s = _
    unfold lib_intValue_89
    exact iv112 hm
  · exact iv112 hm
theorem iv48_e {m len j f : Int} (h : m_intValue_48b a len j m v f t = some (.inr (v, t))) (hm : m = 0 ∨ m = 1) : m_intValue_48 a len j m v f t = some ((if m = 0 then v else -v), t) := by
  unfold m_intValue_48
  rw [lp_end (f := fun l : Int × Int × Int × iS => m_intValue_48b a len (l.1) m (l.2.1) (l.2.2.1) (l.2.2.2)) (l := (j, v, f, t)) (e := (v, t)) h, bn]
  exact iv134 hm
theorem iv48_0 {m len j : Int} (hm : m = 0 ∨ m = 1) : m_intValue_48 a len j m v 0 t = some ((if m = 0 then v else -v), t) := iv48_e (by
  unfold m_intValue_48b
  rw [gr (by omega), if_pos rfl]) hm
theorem iv_lp {m : Int} (hm : m = 0 ∨ m = 1) {n : Nat} (hn : n ≤ 32768) : ∀ (k j : Nat) (v : Int) (s t : iS), LB s t → gO s t → w16 v → j + k = n → Ov (fun r r' => r = i_s r' ∧ r32 r') (lib_intValue_50 a (n : Int) m v (j : Int) s) (m_intValue_48 a (n : Int) (j : Int) m v 1 t) := by
  intro k
  induction k with
  | zero =>
    intro j v s t h hg hv hj
    refine Or.inl ⟨_, _, s, t, iv50_e (e := .inr (v, s)) ?_ (Or.inr rfl) hm, iv48_e ?_ hm, ⟨rfl, by split <;> omega⟩, h, hg⟩
    · unfold lib_intValue_50b
      rw [gr (by omega), gr (by omega), if_pos (by omega)]
    · unfold m_intValue_48b
      rw [gr (by omega), if_neg (by omega), kk99 hg, gr (by omega), gr (by omega), if_pos (by omega)]
  | succ k ih =>
    intro j v s t h hg hv hj
    rcases rd_ok1 (a := (a + 2) + (j : Int)) h hg with ⟨r, r', s1, t1, e1, e2, e3, e4, e5⟩ | ⟨r, r', s1, t1, e1, e2, e3, e4, e5⟩
    · obtain ⟨q, e3⟩ := e3
      subst q
      have d := dg_ok (s := s1) e3
      by_cases c : 48 ≤ r ∧ r ≤ 57
      · rw [if_pos c] at d
        have st1 : lib_intValue_50 a (n : Int) m v (j : Int) s = lib_intValue_50 a (n : Int) m (i_s (((10 * v) + r) - 48)) ((j + 1 : Nat) : Int) s1 := by
          unfold lib_intValue_50
          rw [lp_next (f := fun l : Int × Int × iS => lib_intValue_50b a (n : Int) m (l.1) (l.2.1) (l.2.2)) (l := (v, (j : Int), s)) (l' := (i_s (((10 * v) + r) - 48), ((j + 1 : Nat) : Int), s1)) (by
            show lib_intValue_50b a (n : Int) m v (j : Int) s = _
            unfold lib_intValue_50b
            rw [gr (by omega), gr (by omega), if_neg (by omega), kk5 hg, e1, bq, d, bq, gr (by omega), if_neg (by omega)]
            rfl)]
        have st2 : m_intValue_48 a (n : Int) (j : Int) m v 1 t = m_intValue_48 a (n : Int) ((j + 1 : Nat) : Int) m (i_s (((10 * v) + r) - 48)) 1 t1 := by
          unfold m_intValue_48
          rw [lp_next (f := fun l : Int × Int × Int × iS => m_intValue_48b a (n : Int) (l.1) m (l.2.1) (l.2.2.1) (l.2.2.2)) (l := ((j : Int), v, 1, t)) (l' := (((j + 1 : Nat) : Int), i_s (((10 * v) + r) - 48), 1, t1)) (by
            show m_intValue_48b a (n : Int) (j : Int) m v 1 t = _
            unfold m_intValue_48b
            rw [gr (by omega), if_neg (by omega), kk99 hg, gr (by omega), gr (by omega), if_neg (by omega), e2, bq, kk99 e5, gr (by omega), if_neg (by omega), if_neg (by omega)]
            unfold m_intValue_104 m_word16
            rw [gr (by omega), if_neg (by omega), bq]
            rfl)]
        rw [st1, st2]
        exact ih (j + 1) _ s1 t1 e4 e5 (i_s_rg _) (by omega)
      · rw [if_neg c] at d
        have st2 : m_intValue_48 a (n : Int) (j : Int) m v 1 t = m_intValue_48 a (n : Int) ((j + 1 : Nat) : Int) m v 0 t1 := by
          unfold m_intValue_48
          rw [lp_next (f := fun l : Int × Int × Int × iS => m_intValue_48b a (n : Int) (l.1) m (l.2.1) (l.2.2.1) (l.2.2.2)) (l := ((j : Int), v, 1, t)) (l' := (((j + 1 : Nat) : Int), v, 0, t1)) (by
            show m_intValue_48b a (n : Int) (j : Int) m v 1 t = _
            unfold m_intValue_48b
            rw [gr (by omega), if_neg (by omega), kk99 hg, gr (by omega), gr (by omega), if_neg (by omega), e2, bq, kk99 e5, gr (by omega)]
            unfold m_intValue_103 m_intValue_104
            by_cases c2 : r < 48
            · rw [if_pos c2, gr (by omega), if_pos rfl]
              rfl
            · rw [if_neg c2, if_pos (by omega), gr (by omega), if_pos rfl]
              rfl)]
        rw [st2]
        refine Or.inl ⟨_, _, s1, t1, ?_, iv48_0 hm, ⟨rfl, by split <;> omega⟩, e4, e5⟩
        unfold lib_intValue_50
        rw [lp_end (f := fun l : Int × Int × iS => lib_intValue_50b a (n : Int) m (l.1) (l.2.1) (l.2.2)) (l := (v, (j : Int), s)) (e := .inl (v, s1)) (by
          show lib_intValue_50b a (n : Int) m v (j : Int) s = _
          unfold lib_intValue_50b
          rw [gr (by omega), gr (by omega), if_neg (by omega), kk5 hg, e1, bq, d, bq, gr (by omega), if_pos rfl]), bn]
        show lib_intValue_89 m v s1 = _
        unfold lib_intValue_89
        exact iv112 hm
    · -- no word
      have e1' : mem_read ((a + 2) + (j : Int)) s = some (r, s1) := e1
      have st2 : m_intValue_48 a (n : Int) (j : Int) m v 1 t = m_intValue_48 a (n : Int) ((j + 1 : Nat) : Int) m v 0 t1 := by
        unfold m_intValue_48
        rw [lp_next (f := fun l : Int × Int × Int × iS => m_intValue_48b a (n : Int) (l.1) m (l.2.1) (l.2.2.1) (l.2.2.2)) (l := ((j : Int), v, 1, t)) (l' := (((j + 1 : Nat) : Int), v, 0, t1)) (by
          show m_intValue_48b a (n : Int) (j : Int) m v 1 t = _
          unfold m_intValue_48b
          rw [gr (by omega), if_neg (by omega), kk99 hg, gr (by omega), gr (by omega), if_neg (by omega), e2, bq, e5.2, gr (by omega), if_neg (by omega)]
          unfold m_intValue_103 m_intValue_104
          rw [gr (by omega), if_pos rfl]
          rfl)]
      rw [st2]
      have d := dg_ok (s := s1) e3.1
      -- the class may read one more sign, or stop
      have fin : ∀ (w j' : Int), w16 w → (0 ≤ j' ∧ j' ≤ 40000) → lib_intValue_50 a (n : Int) m w j' s1 = some (i_s (if m = 0 then w else -w), s1) := fun w j' hw hj' => iv50_e (e := .inr (w, s1)) (by
        unfold lib_intValue_50b
        rw [gr (by omega), gr (by omega)]
        by_cases c : (n : Int) ≤ j'
        · rw [if_pos c]
        · rw [if_neg c, e5.1, gr (by omega), if_neg (by omega)]) (Or.inr rfl) hm
      by_cases c : 48 ≤ r ∧ r ≤ 57
      · rw [if_pos c] at d
        refine Or.inr ⟨_, _, s1, t1, ?_, iv48_0 hm, ⟨i_s_rg (if m = 0 then i_s (((10 * v) + r) - 48) else -(i_s (((10 * v) + r) - 48))), by split <;> omega⟩, e4, e5⟩
        rw [← fin (i_s (((10 * v) + r) - 48)) ((j + 1 : Nat) : Int) (i_s_rg _) (by omega)]
        unfold lib_intValue_50
        rw [lp_next (f := fun l : Int × Int × iS => lib_intValue_50b a (n : Int) m (l.1) (l.2.1) (l.2.2)) (l := (v, (j : Int), s)) (l' := (i_s (((10 * v) + r) - 48), ((j + 1 : Nat) : Int), s1)) (by
          show lib_intValue_50b a (n : Int) m v (j : Int) s = _
          unfold lib_intValue_50b
          rw [gr (by omega), gr (by omega), if_neg (by omega), kk5 hg, e1, bq, d, bq, gr (by omega), if_neg (by omega)]
          rfl)]
      · rw [if_neg c] at d
        refine Or.inr ⟨_, _, s1, t1, ?_, iv48_0 hm, ⟨i_s_rg (if m = 0 then v else -v), by split <;> omega⟩, e4, e5⟩
        unfold lib_intValue_50
        rw [lp_end (f := fun l : Int × Int × iS => lib_intValue_50b a (n : Int) m (l.1) (l.2.1) (l.2.2)) (l := (v, (j : Int), s)) (e := .inl (v, s1)) (by
          show lib_intValue_50b a (n : Int) m v (j : Int) s = _
          unfold lib_intValue_50b
          rw [gr (by omega), gr (by omega), if_neg (by omega), kk5 hg, e1, bq, d, bq, gr (by omega), if_pos rfl]), bn]
        show lib_intValue_89 m v s1 = _
        unfold lib_intValue_89
        exact iv112 hm
theorem iv50_0 {m len j : Int} (hm : m = 0 ∨ m = 1) (hl : w16 len) (hj : 0 ≤ j ∧ j ≤ 1) (h5 : len ≤ j ∨ s 44 5 = 1) : lib_intValue_50 a len m 0 j s = some (0, s) := by
  rw [iv50_e (e := .inr (0, s)) (by
    unfold lib_intValue_50b
    rw [gr (by omega), gr (by omega)]
    by_cases c : len ≤ j
    · rw [if_pos c]
    · have : s 44 5 = 1 := by omega
      rw [if_neg c, this, gr (by omega), if_neg (by omega)]) (Or.inr rfl) hm]
  congr 2
  rcases hm with q | q <;> subst q <;> rfl
theorem iv48_z {m len j : Int} (hm : m = 0 ∨ m = 1) (hl : w16 len) (hj : 0 ≤ j ∧ j ≤ 1) (h5 : len ≤ j ∧ t 121 99 = -1 ∨ t 121 99 = 3) : m_intValue_48 a len j m 0 1 t = some (0, t) := by
  rw [iv48_e (by
    unfold m_intValue_48b
    rw [gr (by omega), if_neg (by omega)]
    rcases h5 with ⟨q1, q2⟩ | q
    · rw [q2, gr (by omega), if_pos rfl, gr (by omega), gr (by omega), if_pos q1]
    · rw [q, gr (by omega), if_neg (by omega)]) hm]
  congr 2
  rcases hm with q | q <;> subst q <;> rfl
theorem iv35 {m len : Int} (hm : m = 0 ∨ m = 1) : lib_intValue_35 a len m s = lib_intValue_50 a len m 0 m s := by
  unfold lib_intValue_35 lib_intValue_48
  rw [gr (by omega)]
  rcases hm with q | q <;> subst q
  · rw [if_pos rfl]
  · rw [if_neg (by decide)]
/-- the number of a string -/
theorem iv_ok1 (h : LB s t) (hg : gO s t) (ha : w16 a) : Ov (fun r r' => r = i_s r' ∧ r32 r') (lib_intValue a s) (m_intValue a t) := by
  unfold lib_intValue m_intValue lib_intValue_34 m_intValue_42
  refine Ov_bd (rd_ok1 h hg) (fun r r' s1 t1 hr hl hg1 => ?_) (fun r hr => DCl_gd ⟨by omega, by omega⟩ (DCl_if (fun s t _ hk => ⟨0, by rw [iv35 (Or.inl rfl)]; exact iv50_0 (Or.inl rfl) hr (by omega) (Or.inr hk.1), by decide⟩) (DCl_bd rd_dc (fun r2 hr2 => DCl_gd ⟨by omega, by omega⟩ (DCl_if (fun s t _ hk => ⟨0, by rw [iv35 (Or.inr rfl)]; exact iv50_0 (Or.inr rfl) hr (by omega) (Or.inr hk.1), by decide⟩) (fun s t _ hk => ⟨0, by rw [iv35 (Or.inl rfl)]; exact iv50_0 (Or.inl rfl) hr (by omega) (Or.inr hk.1), by decide⟩)))))) (fun r hr => ?_)
  · obtain ⟨e, hr⟩ := hr
    subst e
    rw [kk99 hg1, gr (by omega), gr (by omega)]
    by_cases c : r ≤ 0
    · rw [if_pos c, if_pos c, iv35 (Or.inl rfl), iv50_0 (Or.inl rfl) hr (by omega) (Or.inl c), iv48_z (Or.inl rfl) hr (by omega) (Or.inl ⟨c, hg1.2⟩)]
      exact Ov_some hl hg1 ⟨by rw [i_s_id (by decide)], by decide⟩
    · rw [if_neg c, if_neg c]
      obtain ⟨n, rfl⟩ : ∃ n : Nat, r = (n : Int) := ⟨r.toNat, by omega⟩
      refine Ov_bd (rd_ok1 hl hg1) (fun r2 r2' s2 t2 hr2 hl2 hg2 => ?_) (fun r2 hr2 => DCl_gd ⟨by omega, by omega⟩ (DCl_if (fun s t _ hk => ⟨0, by rw [iv35 (Or.inr rfl)]; exact iv50_0 (Or.inr rfl) hr (by omega) (Or.inr hk.1), by decide⟩) (fun s t _ hk => ⟨0, by rw [iv35 (Or.inl rfl)]; exact iv50_0 (Or.inl rfl) hr (by omega) (Or.inr hk.1), by decide⟩))) (fun r2 hr2 => DRf_gd ⟨by omega, by omega⟩ (DRf_if (fun s t _ hk => ⟨0, iv48_z (Or.inr rfl) hr (by omega) (Or.inr hk.2), by decide⟩) (fun s t _ hk => ⟨0, iv48_z (Or.inl rfl) hr (by omega) (Or.inr hk.2), by decide⟩)))
      obtain ⟨e, hr2⟩ := hr2
      subst e
      rw [gr (by omega), gr (by omega)]
      by_cases c2 : r2 = 45
      · rw [if_pos c2, if_pos c2, iv35 (Or.inr rfl)]
        exact iv_lp (Or.inr rfl) (by omega) (n - 1) 1 0 s2 t2 hl2 hg2 (by decide) (by omega)
      · rw [if_neg c2, if_neg c2, iv35 (Or.inl rfl)]
        exact iv_lp (Or.inl rfl) (by omega) n 0 0 s2 t2 hl2 hg2 (by decide) (by omega)
  · intro s t hl hk
    refine ⟨0, ?_, by decide⟩
    show gd (rg (t 121 99)) _ = _
    rw [hk.2, gr (by omega), if_neg (by omega)]
    unfold m_intValue_48
    rw [lp_end (f := fun l : Int × Int × Int × iS => m_intValue_48b a r (l.1) 0 (l.2.1) (l.2.2.1) (l.2.2.2)) (l := (0, 0, 1, t)) (e := (0, t)) (by
      show m_intValue_48b a r 0 0 0 1 t = _
      unfold m_intValue_48b
      rw [gr (by omega), if_neg (by omega), hk.2, gr (by omega), if_neg (by omega)]), bn]
    exact iv134 (Or.inl rfl)
end LBh
