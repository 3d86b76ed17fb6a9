/-! signs: the reference's end; the whole call -/
section SG
variable {n m a k p : Nat} {own : List (List Int)} {s t : iS}
/-- the values of the symbols -/
theorem m223 (hy : own.length ≤ 100) (h2 : t 121 112 = (own.length : Int)) (hva : ∀ j, j < own.length → -1 ≤ t 192 j ∧ t 192 j ≤ 1500) : lp (L := Int × Int × iS) (E := iS) (fun l => m_signs_223b (l.1) (l.2.1) (l.2.2)) (16, 0, t) = some (sr t 192 (fun j => if j < own.length then fv (t 192) j else t 192 j)) := by
  have E := lp_run (f := fun l : Int × Int × iS => m_signs_223b (l.1) (l.2.1) (l.2.2)) (fun i : Nat => ((16 : Int) + (cn (t 192) i : Int), (i : Int), sr t 192 (fun j => if j < i then fv (t 192) j else t 192 j))) (sr t 192 (fun j => if j < own.length then fv (t 192) j else t 192 j)) own.length (fun i hi => by
    have hv := hva i hi
    have e1 : sr t 192 (fun j => if j < i then fv (t 192) j else t 192 j) 121 112 = (own.length : Int) := by rw [sr_ne (by decide)]; exact h2
    have e2 : sr t 192 (fun j => if j < i then fv (t 192) j else t 192 j) 192 i = t 192 i := by rw [sr_at, if_neg (by omega)]
    simp only [m_signs_223b, Int.toNat_natCast, e1, e2]
    rw [gr (by omega), gr (by omega), if_neg (by omega), gd_pos (by omega), gr (by omega)]
    by_cases c : t 192 i = -1
    · rw [if_pos c, lt_eq, sr_up (by unfold fv; rw [if_pos c])]
      simp only [cn, if_pos c]
      rfl
    · rw [if_neg c, sr_same (by unfold fv; rw [if_neg c])]
      simp only [cn, if_neg c]
      rfl) (by
    have e1 : sr t 192 (fun j => if j < own.length then fv (t 192) j else t 192 j) 121 112 = (own.length : Int) := by rw [sr_ne (by decide)]; exact h2
    simp only [m_signs_223b, e1]
    rw [gr (by omega), gr (by omega), if_pos (by omega)]) own.length 0 (by omega)
  simp only [sr_0] at E
  exact E
theorem mst_ok (h : RA n own m (-1) s t) : ∃ t', m_signs_216 t = some (0, t') ∧ (∀ i, i < m → t' 189 i = FW (t 192) (t 189) (t 193) i) ∧ ∀ c k, c ≠ 189 → c ≠ 192 → t' c k = t c k := by
  obtain ⟨⟨_, h1, hm⟩, ⟨hy, h2, _⟩, _, _, h5, h6, _, _⟩ := h
  have hva : ∀ j, j < own.length → -1 ≤ t 192 j ∧ t 192 j ≤ 1500 := fun j hj => (h5 j hj).2.2.2
  unfold m_signs_216 m_signs_223 m_signs_267 m_signs_270
  rw [m223 hy h2 hva, bn]
  generalize hu : sr t 192 (fun j => if j < own.length then fv (t 192) j else t 192 j) = u
  have u1 : ∀ c, c ≠ 192 → u c = t c := fun c hc => by rw [← hu, sr_ne hc]
  have u2 : ∀ j, j < own.length → u 192 j = fv (t 192) j := fun j hj => by rw [← hu, sr_at, if_pos hj]
  have E := lp_run (f := fun l : Int × iS => m_signs_270b (l.1) (l.2)) (fun i : Nat => ((i : Int), sr u 189 (fun j => if j < i then FW (t 192) (t 189) (t 193) j else u 189 j))) (sr u 189 (fun j => if j < m then FW (t 192) (t 189) (t 193) j else u 189 j)) m (fun i hi => by
    have e1 : sr u 189 (fun j => if j < i then FW (t 192) (t 189) (t 193) j else u 189 j) 121 110 = (m : Int) := by rw [sr_ne (by decide), u1 121 (by decide)]; exact h1
    have e2 : sr u 189 (fun j => if j < i then FW (t 192) (t 189) (t 193) j else u 189 j) 193 = t 193 := by rw [sr_ne (by decide), u1 193 (by decide)]
    have e3 : sr u 189 (fun j => if j < i then FW (t 192) (t 189) (t 193) j else u 189 j) 192 = u 192 := sr_ne (by decide)
    have e4 : sr u 189 (fun j => if j < i then FW (t 192) (t 189) (t 193) j else u 189 j) 189 i = t 189 i := by rw [sr_at, if_neg (by omega), u1 189 (by decide)]
    have wq := WR_q (h6 i hi)
    simp only [m_signs_270b, m_signs_318, Int.toNat_natCast, e1, e2, e3, e4]
    rw [gr (by omega), gr (by omega), if_neg (by omega), gd_pos (by omega), gr (by omega)]
    by_cases c : t 193 i = -1
    · rw [if_pos c, gd_pos (by omega), lt_eq, sr_up (by unfold FW; rw [if_pos c])]
      rfl
    · rw [if_neg c, gd_pos (by omega), gd_pos (by omega), lt_eq, u2 _ (by omega), sr_up (by unfold FW; rw [if_neg c])]
      rfl) (by
    have e1 : sr u 189 (fun j => if j < m then FW (t 192) (t 189) (t 193) j else u 189 j) 121 110 = (m : Int) := by rw [sr_ne (by decide), u1 121 (by decide)]; exact h1
    simp only [m_signs_270b, e1]
    rw [gr (by omega), gr (by omega), if_pos (by omega)]) m 0 (by omega)
  simp only [sr_0] at E
  have E' : lp (L := Int × iS) (E := iS) (fun l => m_signs_270b (l.1) (l.2)) (0, u) = _ := E
  rw [E', bn]
  refine ⟨_, rfl, fun i hi => ?_, fun c k h1 h2 => ?_⟩
  · rw [sr_at, if_pos hi]
  · rw [sr_ne h1, u1 c h2]
theorem takes2 {n : Nat} (h1 : (n : Int) ≤ t 121 1) (h2 : t 121 1 ≤ 4000) : m_takes (n : Int) t = some (1, up (sr (up t 121 3 (n : Int)) 123 (fun j => if j < n then t 122 j else t 123 j)) 121 1 0) := by
  unfold m_takes m_takes_21
  rw [gr (by omega), if_neg (by omega), gr (by omega), if_pos h1, lt_eq]
  generalize hu : up t 121 3 (n : Int) = u
  have u1 : ∀ c, c ≠ 121 → u c = t c := fun c hc => by rw [← hu, up_cell hc]
  have E := lp_run (f := fun l : Int × iS => m_takes_21b (n : Int) (l.1) (l.2)) (fun i : Nat => ((i : Int), sr u 123 (fun j => if j < i then t 122 j else u 123 j))) (sr u 123 (fun j => if j < n then t 122 j else u 123 j)) n (fun i hi => by
    have e1 : sr u 123 (fun j => if j < i then t 122 j else u 123 j) 122 = t 122 := by rw [sr_ne (by decide), u1 122 (by decide)]
    simp only [m_takes_21b, Int.toNat_natCast, e1]
    rw [gr (by omega), gr (by omega), if_neg (by omega), gd_pos (by omega), lt_eq, sr_up rfl]
    rfl) (by
    simp only [m_takes_21b]
    rw [gr (by omega), gr (by omega), if_pos (by omega)]) n 0 (by omega)
  simp only [sr_0] at E
  have E' : lp (L := Int × iS) (E := iS) (fun l => m_takes_21b (n : Int) (l.1) (l.2)) (0, u) = _ := E
  rw [E', bn, u1 123 (by decide)]
  rfl
theorem takes0 {a : Int} (ha : rg a) (h : a < 0 ∨ t 121 1 < a) (h2 : rg (t 121 1)) : m_takes a t = some (0, t) := by
  unfold m_takes
  rw [gd_pos ha]
  by_cases c : a < 0
  · rw [if_pos c]
  · rw [if_neg c, gd_pos h2, if_neg (by omega)]
/-- the reference's processor is cleared -/
def rsP (t : iS) : iS := up (up (up (up (up (up (sr t 194 (fun j => if j < 32768 then 0 else t 194 j)) 121 118 0) 121 119 0) 121 120 0) 121 121 0) 121 110 0) 121 112 0
theorem mrs_ok : m_resetProcessor t = some (0, rsP t) := by
  unfold m_resetProcessor m_resetProcessor_2
  have E := lp_run (f := fun l : Int × iS => m_resetProcessor_2b (l.1) (l.2)) (fun i : Nat => ((i : Int), sr t 194 (fun j => if j < i then 0 else t 194 j))) (sr t 194 (fun j => if j < 32768 then 0 else t 194 j)) 32768 (fun i hi => by
    simp only [m_resetProcessor_2b, Int.toNat_natCast]
    rw [gr (by omega), if_neg (by omega), gd_pos (by omega), lt_eq, sr_up (g := fun _ => 0) rfl]
    rfl) (by
    simp only [m_resetProcessor_2b]
    rw [gr (by omega), if_pos (by omega)]) 32768 0 (by omega)
  have z : sr t 194 (fun j => if j < 0 then 0 else t 194 j) = t := sr_0 (g := fun _ => 0)
  simp only [z] at E
  have E' : lp (L := Int × iS) (E := iS) (fun l => m_resetProcessor_2b (l.1) (l.2)) (0, t) = _ := E
  rw [E', bn]
  rfl
/-- the class's processor is cleared -/
def rsX (s : iS) : iS := up (up (up (up (up (up (up (up (sr s 70 (fun j => if j < 32768 then 0 else s 70 j)) 65 2 23) 55 8 0) 55 9 0) 55 10 0) 55 11 0) 55 12 0) 55 14 0) 55 15 (-1)
theorem prs_ok (h : RK s) : pro_reset s = some (0, rsX s) := by
  obtain ⟨y, h1, h2, _⟩ := h
  unfold pro_reset
  rw [fill_ok (by omega), bq, show (23 : Int) = ((23 : Nat) : Int) from rfl, keep_ok (m := 23 + y) (by rw [sr_ne (by decide), h1]; omega) (by omega) (by omega), bq, show min (23 + y) 23 = 23 by omega]
  rfl
end SG
