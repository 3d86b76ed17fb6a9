/-! signs: computations -/
def tC : List (List Int) := [[48], [49], [45, 49], [68], [65], [33, 68], [33, 65], [45, 68], [45, 65], [68, 43, 49], [65, 43, 49], [68, 45, 49], [65, 45, 49], [68, 43, 65], [68, 45, 65], [65, 45, 68], [68, 38, 65], [68, 124, 65], [77], [33, 77], [45, 77], [77, 43, 49], [77, 45, 49], [68, 43, 77], [68, 45, 77], [77, 45, 68], [68, 38, 77], [68, 124, 77]]
def tD : List (List Int) := [[77], [68], [77, 68], [65], [65, 77], [65, 68], [65, 77, 68]]
def tJ : List (List Int) := [[74, 71, 84], [74, 69, 81], [74, 71, 69], [74, 76, 84], [74, 78, 69], [74, 76, 69], [74, 77, 80]]
theorem tC_gw : ∀ w ∈ tC, gw w := by
  have : ∀ w ∈ tC, w.length ≤ 16 ∧ 0 < w.length ∧ ∀ x ∈ w, (0 : Int) < x ∧ x < 256 := by decide
  exact this
theorem tD_gw : ∀ w ∈ tD, gw w := by
  have : ∀ w ∈ tD, w.length ≤ 16 ∧ 0 < w.length ∧ ∀ x ∈ w, (0 : Int) < x ∧ x < 256 := by decide
  exact this
theorem tJ_gw : ∀ w ∈ tJ, gw w := by
  have : ∀ w ∈ tJ, w.length ≤ 16 ∧ 0 < w.length ∧ ∀ x ∈ w, (0 : Int) < x ∧ x < 256 := by decide
  exact this
theorem l_9 : bs (fun k => (ka_9 k).toInt) 0 19 = fl tD := by decide
theorem l_10 : bs (fun k => (ka_10 k).toInt) 0 28 = fl tJ := by decide
def cc (i : Int) : Int := if i = -1 then -1 else (ka_4 i.toNat).toInt
def nM (x : Int) : Int := if x = 77 then 65 else x
def mM (x y z : Int) : Int := if x = 77 ∨ y = 77 ∨ z = 77 then 64 else 0
section CO
variable {s t : iS} {k a : Nat} {x y z : Int}
theorem c51 (hx : 0 ≤ x ∧ x < 256) (hy : 0 ≤ y ∧ y < 256) (hz : 0 ≤ z ∧ z < 256) {q : Int} : m_compOf_51 q x y z t = m_compOf_124 q (nM x) (nM y) (mM x y z) (nM z) t := by
  by_cases c1 : x = 77 <;> by_cases c2 : y = 77 <;> by_cases c3 : z = 77 <;> simp (disch := omega) only [m_compOf_51, m_compOf_73, m_compOf_79, m_compOf_93, m_compOf_108, nM, mM, gr, if_pos, if_neg]
theorem N459 {M : Int} : m_compOf_459 M (-1) t = some (-1, t) := by
  unfold m_compOf_459
  rw [gr (by omega), if_pos rfl]
theorem N426 {q a b c M : Int} (hq : 0 ≤ q ∧ q < 5000) (ha : 0 ≤ a ∧ a < 256) (hb : 0 ≤ b ∧ b < 256) (hc : 0 ≤ c ∧ c < 256) (n6 : ¬ (q = 3 ∧ a = 65 ∧ c = 68 ∧ b = 45)) : m_compOf_426 q a b c M (-1) t = some (-1, t) := by
  unfold m_compOf_426 m_compOf_457
  rw [gr (by omega)]
  by_cases g1 : q = 3
  case neg => rw [if_neg g1]; exact N459
  rw [if_pos g1, gr (by omega)]
  by_cases g2 : a = 65
  case neg => rw [if_neg g2]; exact N459
  rw [if_pos g2, gr (by omega)]
  by_cases g3 : c = 68
  case neg => rw [if_neg g3]; exact N459
  rw [if_pos g3, gr (by omega), if_neg (by omega)]
  exact N459
theorem N359 {q a b c M : Int} (hq : 0 ≤ q ∧ q < 5000) (ha : 0 ≤ a ∧ a < 256) (hb : 0 ≤ b ∧ b < 256) (hc : 0 ≤ c ∧ c < 256) (n5 : ¬ (q = 3 ∧ a = 68 ∧ c = 65 ∧ (b = 43 ∨ b = 45 ∨ b = 38 ∨ b = 124))) (n6 : ¬ (q = 3 ∧ a = 65 ∧ c = 68 ∧ b = 45)) : m_compOf_359 q a b c M (-1) t = some (-1, t) := by
  unfold m_compOf_359 m_compOf_424
  rw [gr (by omega)]
  by_cases g1 : q = 3
  case neg => rw [if_neg g1]; exact (N426 hq ha hb hc n6)
  rw [if_pos g1, gr (by omega)]
  by_cases g2 : a = 68
  case neg => rw [if_neg g2]; exact (N426 hq ha hb hc n6)
  rw [if_pos g2, gr (by omega)]
  by_cases g3 : c = 65
  case neg => rw [if_neg g3]; exact (N426 hq ha hb hc n6)
  rw [if_pos g3, gr (by omega), if_neg (by omega), if_neg (by omega), if_neg (by omega), if_neg (by omega)]
  exact (N426 hq ha hb hc n6)
theorem N314 {q a b c M : Int} (hq : 0 ≤ q ∧ q < 5000) (ha : 0 ≤ a ∧ a < 256) (hb : 0 ≤ b ∧ b < 256) (hc : 0 ≤ c ∧ c < 256) (n4 : ¬ (q = 3 ∧ a = 65 ∧ c = 49 ∧ (b = 43 ∨ b = 45))) (n5 : ¬ (q = 3 ∧ a = 68 ∧ c = 65 ∧ (b = 43 ∨ b = 45 ∨ b = 38 ∨ b = 124))) (n6 : ¬ (q = 3 ∧ a = 65 ∧ c = 68 ∧ b = 45)) : m_compOf_314 q a b c M (-1) t = some (-1, t) := by
  unfold m_compOf_314 m_compOf_357
  rw [gr (by omega)]
  by_cases g1 : q = 3
  case neg => rw [if_neg g1]; exact (N359 hq ha hb hc n5 n6)
  rw [if_pos g1, gr (by omega)]
  by_cases g2 : a = 65
  case neg => rw [if_neg g2]; exact (N359 hq ha hb hc n5 n6)
  rw [if_pos g2, gr (by omega)]
  by_cases g3 : c = 49
  case neg => rw [if_neg g3]; exact (N359 hq ha hb hc n5 n6)
  rw [if_pos g3, gr (by omega), if_neg (by omega), if_neg (by omega)]
  exact (N359 hq ha hb hc n5 n6)
theorem N269 {q a b c M : Int} (hq : 0 ≤ q ∧ q < 5000) (ha : 0 ≤ a ∧ a < 256) (hb : 0 ≤ b ∧ b < 256) (hc : 0 ≤ c ∧ c < 256) (n3 : ¬ (q = 3 ∧ a = 68 ∧ c = 49 ∧ (b = 43 ∨ b = 45))) (n4 : ¬ (q = 3 ∧ a = 65 ∧ c = 49 ∧ (b = 43 ∨ b = 45))) (n5 : ¬ (q = 3 ∧ a = 68 ∧ c = 65 ∧ (b = 43 ∨ b = 45 ∨ b = 38 ∨ b = 124))) (n6 : ¬ (q = 3 ∧ a = 65 ∧ c = 68 ∧ b = 45)) : m_compOf_269 q a b c M (-1) t = some (-1, t) := by
  unfold m_compOf_269 m_compOf_312
  rw [gr (by omega)]
  by_cases g1 : q = 3
  case neg => rw [if_neg g1]; exact (N314 hq ha hb hc n4 n5 n6)
  rw [if_pos g1, gr (by omega)]
  by_cases g2 : a = 68
  case neg => rw [if_neg g2]; exact (N314 hq ha hb hc n4 n5 n6)
  rw [if_pos g2, gr (by omega)]
  by_cases g3 : c = 49
  case neg => rw [if_neg g3]; exact (N314 hq ha hb hc n4 n5 n6)
  rw [if_pos g3, gr (by omega), if_neg (by omega), if_neg (by omega)]
  exact (N314 hq ha hb hc n4 n5 n6)
theorem N231 {q a b c M : Int} (hq : 0 ≤ q ∧ q < 5000) (ha : 0 ≤ a ∧ a < 256) (hb : 0 ≤ b ∧ b < 256) (hc : 0 ≤ c ∧ c < 256) (n2 : ¬ (q = 2 ∧ a = 33 ∧ (b = 68 ∨ b = 65))) (n3 : ¬ (q = 3 ∧ a = 68 ∧ c = 49 ∧ (b = 43 ∨ b = 45))) (n4 : ¬ (q = 3 ∧ a = 65 ∧ c = 49 ∧ (b = 43 ∨ b = 45))) (n5 : ¬ (q = 3 ∧ a = 68 ∧ c = 65 ∧ (b = 43 ∨ b = 45 ∨ b = 38 ∨ b = 124))) (n6 : ¬ (q = 3 ∧ a = 65 ∧ c = 68 ∧ b = 45)) : m_compOf_231 q a b c M (-1) t = some (-1, t) := by
  unfold m_compOf_231 m_compOf_267
  rw [gr (by omega)]
  by_cases g1 : q = 2
  case neg => rw [if_neg g1]; exact (N269 hq ha hb hc n3 n4 n5 n6)
  rw [if_pos g1, gr (by omega)]
  by_cases g2 : a = 33
  case neg => rw [if_neg g2]; exact (N269 hq ha hb hc n3 n4 n5 n6)
  rw [if_pos g2, gr (by omega)]
  rw [if_neg (by omega), if_neg (by omega)]
  exact (N269 hq ha hb hc n3 n4 n5 n6)
theorem N181 {q a b c M : Int} (hq : 0 ≤ q ∧ q < 5000) (ha : 0 ≤ a ∧ a < 256) (hb : 0 ≤ b ∧ b < 256) (hc : 0 ≤ c ∧ c < 256) (n1 : ¬ (q = 2 ∧ a = 45 ∧ (b = 49 ∨ b = 68 ∨ b = 65))) (n2 : ¬ (q = 2 ∧ a = 33 ∧ (b = 68 ∨ b = 65))) (n3 : ¬ (q = 3 ∧ a = 68 ∧ c = 49 ∧ (b = 43 ∨ b = 45))) (n4 : ¬ (q = 3 ∧ a = 65 ∧ c = 49 ∧ (b = 43 ∨ b = 45))) (n5 : ¬ (q = 3 ∧ a = 68 ∧ c = 65 ∧ (b = 43 ∨ b = 45 ∨ b = 38 ∨ b = 124))) (n6 : ¬ (q = 3 ∧ a = 65 ∧ c = 68 ∧ b = 45)) : m_compOf_181 q a b c M (-1) t = some (-1, t) := by
  unfold m_compOf_181 m_compOf_229
  rw [gr (by omega)]
  by_cases g1 : q = 2
  case neg => rw [if_neg g1]; exact (N231 hq ha hb hc n2 n3 n4 n5 n6)
  rw [if_pos g1, gr (by omega)]
  by_cases g2 : a = 45
  case neg => rw [if_neg g2]; exact (N231 hq ha hb hc n2 n3 n4 n5 n6)
  rw [if_pos g2, gr (by omega)]
  rw [if_neg (by omega), if_neg (by omega), if_neg (by omega)]
  exact (N231 hq ha hb hc n2 n3 n4 n5 n6)
theorem nM_c (x : Int) : nM x = x ∧ x ≠ 77 ∨ nM x = 65 ∧ x = 77 := by
  unfold nM
  by_cases c : x = 77
  · rw [if_pos c]; exact Or.inr ⟨rfl, c⟩
  · rw [if_neg c]; exact Or.inl ⟨rfl, c⟩
theorem cN {q b M c : Int} {a : Int} (hq : 0 ≤ q ∧ q < 5000) (ha : 0 ≤ a ∧ a < 256) (hb : 0 ≤ b ∧ b < 256) (hc : 0 ≤ c ∧ c < 256) (h : q ≠ 1 ∧ q ≠ 2 ∧ q ≠ 3) : m_compOf_124 q a b M c t = some (-1, t) := by
  unfold m_compOf_124
  rw [gr (by omega), if_neg (by omega)]
  exact N181 hq ha hb hc (by omega) (by omega) (by omega) (by omega) (by omega) (by omega) 
theorem k1 (hx : 0 ≤ x ∧ x < 256) : m_compOf_124 1 (nM x) (nM 0) (mM x 0 0) (nM 0) t = some (cc (fw tC [x] 0), t) := by
  by_cases hc : x = 48 ∨ x = 49 ∨ x = 68 ∨ x = 65 ∨ x = 77
  · rcases hc with rfl | rfl | rfl | rfl | rfl <;> rfl
  have f : ¬ (x = 48 ∨ x = 49 ∨ x = 68 ∨ x = 65 ∨ x = 77) → fw tC [x] 0 = -1 := fun no => fw_no tC 0 (fun w hw q => by
    have hh : ∀ w ∈ tC, w.length = 1 → (w.getD 0 0 = 48 ∨ w.getD 0 0 = 49 ∨ w.getD 0 0 = 68 ∨ w.getD 0 0 = 65 ∨ w.getD 0 0 = 77) := by decide
    have := hh w hw (by rw [q]; rfl)
    rw [q] at this
    simp only [List.getD_cons_zero, List.getD_cons_succ] at this
    exact no this)
  have nx := nM_c x
  have n0 := nM_c 0
  rw [f hc]
  show _ = some (-1, t)
  unfold m_compOf_124 m_compOf_179
  rw [gr (by omega), if_pos rfl, gr (by omega), if_neg (by omega), if_neg (by omega), if_neg (by omega), if_neg (by omega)]
  exact N181 (by omega) (by omega) (by omega) (by omega) (by omega) (by omega) (by omega) (by omega) (by omega) (by omega) 
theorem k2 (hx : 0 ≤ x ∧ x < 256) (hy : 0 ≤ y ∧ y < 256) : m_compOf_124 2 (nM x) (nM y) (mM x y 0) (nM 0) t = some (cc (fw tC [x, y] 0), t) := by
  by_cases hc : x = 45 ∧ (y = 49 ∨ y = 68 ∨ y = 65 ∨ y = 77) ∨ x = 33 ∧ (y = 68 ∨ y = 65 ∨ y = 77)
  · rcases hc with ⟨rfl, rfl | rfl | rfl | rfl⟩ | ⟨rfl, rfl | rfl | rfl⟩ <;> rfl
  have f : ¬ (x = 45 ∧ (y = 49 ∨ y = 68 ∨ y = 65 ∨ y = 77) ∨ x = 33 ∧ (y = 68 ∨ y = 65 ∨ y = 77)) → fw tC [x, y] 0 = -1 := fun no => fw_no tC 0 (fun w hw q => by
    have hh : ∀ w ∈ tC, w.length = 2 → (w.getD 0 0 = 45 ∧ (w.getD 1 0 = 49 ∨ w.getD 1 0 = 68 ∨ w.getD 1 0 = 65 ∨ w.getD 1 0 = 77) ∨ w.getD 0 0 = 33 ∧ (w.getD 1 0 = 68 ∨ w.getD 1 0 = 65 ∨ w.getD 1 0 = 77)) := by decide
    have := hh w hw (by rw [q]; rfl)
    rw [q] at this
    simp only [List.getD_cons_zero, List.getD_cons_succ] at this
    exact no this)
  have nx := nM_c x
  have ny := nM_c y
  have n0 := nM_c 0
  rw [f hc]
  show _ = some (-1, t)
  unfold m_compOf_124
  rw [gr (by omega), if_neg (by omega)]
  exact N181 (by omega) (by omega) (by omega) (by omega) (by omega) (by omega) (by omega) (by omega) (by omega) (by omega) 
theorem k3 (hx : 0 ≤ x ∧ x < 256) (hy : 0 ≤ y ∧ y < 256) (hz : 0 ≤ z ∧ z < 256) : m_compOf_124 3 (nM x) (nM y) (mM x y z) (nM z) t = some (cc (fw tC [x, y, z] 0), t) := by
  by_cases hc : (x = 68 ∧ z = 49 ∧ (y = 43 ∨ y = 45) ∨ x = 68 ∧ (z = 65 ∨ z = 77) ∧ (y = 43 ∨ y = 45 ∨ y = 38 ∨ y = 124) ∨ (x = 65 ∨ x = 77) ∧ (z = 49 ∧ (y = 43 ∨ y = 45) ∨ z = 68 ∧ y = 45))
  · rcases hc with ⟨rfl, rfl, rfl | rfl⟩ | ⟨rfl, rfl | rfl, rfl | rfl | rfl | rfl⟩ | ⟨rfl | rfl, ⟨rfl, rfl | rfl⟩ | ⟨rfl, rfl⟩⟩ <;> rfl
  have f : ¬ (x = 68 ∧ z = 49 ∧ (y = 43 ∨ y = 45) ∨ x = 68 ∧ (z = 65 ∨ z = 77) ∧ (y = 43 ∨ y = 45 ∨ y = 38 ∨ y = 124) ∨ (x = 65 ∨ x = 77) ∧ (z = 49 ∧ (y = 43 ∨ y = 45) ∨ z = 68 ∧ y = 45)) → fw tC [x, y, z] 0 = -1 := fun no => fw_no tC 0 (fun w hw q => by
    have hh : ∀ w ∈ tC, w.length = 3 → (w.getD 0 0 = 68 ∧ w.getD 2 0 = 49 ∧ (w.getD 1 0 = 43 ∨ w.getD 1 0 = 45) ∨ w.getD 0 0 = 68 ∧ (w.getD 2 0 = 65 ∨ w.getD 2 0 = 77) ∧ (w.getD 1 0 = 43 ∨ w.getD 1 0 = 45 ∨ w.getD 1 0 = 38 ∨ w.getD 1 0 = 124) ∨ (w.getD 0 0 = 65 ∨ w.getD 0 0 = 77) ∧ (w.getD 2 0 = 49 ∧ (w.getD 1 0 = 43 ∨ w.getD 1 0 = 45) ∨ w.getD 2 0 = 68 ∧ w.getD 1 0 = 45)) := by decide
    have := hh w hw (by rw [q]; rfl)
    rw [q] at this
    simp only [List.getD_cons_zero, List.getD_cons_succ] at this
    exact no this)
  have nx := nM_c x
  have ny := nM_c y
  have nz := nM_c z
  rw [f hc]
  show _ = some (-1, t)
  unfold m_compOf_124
  rw [gr (by omega), if_neg (by omega)]
  exact N181 (by omega) (by omega) (by omega) (by omega) (by omega) (by omega) (by omega) (by omega) (by omega) (by omega) 
theorem cof_ok (hb : BY (t 123)) (hn : a + k ≤ 4000) : m_compOf (a : Int) (k : Int) t = some (cc (fw tC (bs (t 123) a k) 0), t) := by
  have b0 := hb a
  have b1 := hb (a + 1)
  have b2 := hb (a + 2)
  have e1 : ((a : Int) + 1).toNat = a + 1 := by omega
  have e2 : ((a : Int) + 2).toNat = a + 2 := by omega
  unfold m_compOf m_compOf_14 m_compOf_32
  simp only [Int.toNat_natCast, e1, e2]
  by_cases c0 : k = 0
  · subst c0
    have n0 := nM_c 0
    rw [gr (by omega), if_pos (by omega), gr (by omega), if_pos (by omega), gr (by omega), if_pos (by omega), c51 (by omega) (by omega) (by omega), cN (by omega) (by omega) (by omega) (by omega) (by omega)]
    rfl
  rw [gr (by omega), if_neg (by omega), gd_pos (by omega)]
  by_cases c1 : k = 1
  · subst c1
    rw [gr (by omega), if_pos (by omega), gr (by omega), if_pos (by omega), c51 b0 (by omega) (by omega)]
    exact k1 b0
  rw [gr (by omega), if_neg (by omega), gd_pos (by omega)]
  by_cases c2 : k = 2
  · subst c2
    rw [gr (by omega), if_pos (by omega), c51 b0 b1 (by omega)]
    exact k2 b0 b1
  rw [gr (by omega), if_neg (by omega), gd_pos (by omega)]
  by_cases c3 : k = 3
  · subst c3
    rw [c51 b0 b1 b2]
    exact k3 b0 b1 b2
  have nx := nM_c (t 123 a)
  have ny := nM_c (t 123 (a + 1))
  have nz := nM_c (t 123 (a + 2))
  rw [c51 b0 b1 b2, cN (by omega) (by omega) (by omega) (by omega) (by omega), fw_no tC 0 (fun w hw q => by
    have hh : ∀ w ∈ tC, w.length ≤ 3 := by decide
    have := hh w hw
    rw [q, bs_len] at this
    omega)]
  rfl
end CO
def FT (s : iS) : Prop := TB 56 57 58 tC s ∧ TB 59 60 61 tD s ∧ TB 62 63 64 tJ s
