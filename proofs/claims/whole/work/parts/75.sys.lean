/-! the reference's table of the system's subs -/
def sysE : List (Nat × Nat × Nat) := [(0, 0, 0), (1, 0, 6), (1, 1, 12), (1, 2, 18), (1, 3, 24), (1, 4, 35), (1, 5, 44), (1, 6, 51), (2, 6, 59), (2, 7, 66), (2, 8, 73), (2, 9, 81), (2, 10, 91), (3, 10, 98), (3, 11, 104), (3, 12, 114), (4, 12, 122), (4, 13, 128), (4, 14, 137), (4, 15, 146), (4, 16, 158), (4, 17, 171), (4, 18, 187), (4, 19, 198), (4, 20, 207), (4, 21, 217), (4, 22, 227), (4, 23, 241), (4, 24, 253), (5, 24, 261), (5, 25, 273), (5, 26, 287), (5, 27, 298), (5, 28, 308), (6, 28, 318), (6, 29, 331), (6, 30, 342), (6, 31, 353), (7, 31, 361), (7, 32, 375), (7, 33, 386), (7, 34, 398), (7, 35, 409), (7, 36, 425), (7, 37, 438), (8, 37, 443), (8, 38, 450), (8, 39, 458), (8, 40, 465)]
def sysCA : List Int := [1, 52, 92, 115, 254, 309, 354, 439]
def sysFI : List Int := [0, 6, 10, 12, 24, 28, 31, 37]
def sysAT : List Int := [8, 14, 20, 26, 37, 46, 61, 68, 75, 83, 100, 106, 124, 130, 139, 148, 160, 173, 189, 200, 209, 219, 229, 243, 263, 275, 289, 300, 320, 333, 344, 363, 377, 388, 400, 411, 427, 445, 452, 460]
def sysME : List Int := [0, 0, 0, 0, 0, 0, 0, 0, 0, 0, 0, 1, 0, 1, 1, 1, 1, 1, 1, 1, 1, 0, 0, 0, 0, 0, 0, 0, 0, 0, 0, 0, 0, 0, 0, 0, 0, 0, 0, 0]
def sysMN : List Int := [1, 2, 2, 2, 2, 1, 1, 2, 1, 1, 1, 0, 1, 0, 1, 2, 1, 0, 0, 1, 0, 0, 0, 0, 1, 1, 1, 0, 0, 0, 1, 0, 1, 2, 4, 4, 3, 0, 1, 1]
def k5 (k : Nat) : Int := (ka_5 k).toInt
def chkE (q q' : Nat × Nat × Nat) : Bool := decide (q.1 < 9 ∧ q.2.1 ≤ 40 ∧ q.2.2 < 465 ∧ q.2.2 < q'.2.2 ∧ q'.2.2 ≤ 465 ∧ rg (k5 q.2.2) ∧ k5 (q'.2.2 - 1) = 32 ∧ (if k5 q.2.2 = 33 then q.1 < 8 ∧ q'.1 = q.1 + 1 ∧ q'.2.1 = q.2.1 ∧ sysCA.getD q.1 0 = (q.2.2 : Int) + 1 ∧ sysFI.getD q.1 0 = (q.2.1 : Int) else q.2.1 < 40 ∧ q'.1 = q.1 ∧ q'.2.1 = q.2.1 + 1 ∧ q.2.2 + 1 < 465 ∧ sysME.getD q.2.1 0 = (if k5 q.2.2 = 35 then 1 else 0) ∧ sysMN.getD q.2.1 0 = k5 (q.2.2 + 1) - 48 ∧ sysAT.getD q.2.1 0 = (q.2.2 : Int) + 2)) && (List.range (q'.2.2 - 1 - q.2.2)).all (fun i => decide (rg (k5 (q.2.2 + i)) ∧ k5 (q.2.2 + i) ≠ 32))
theorem sysE_ok : (List.range 48).all (fun i => chkE (sysE.getD i (0, 0, 0)) (sysE.getD (i + 1) (0, 0, 0))) = true := by decide +kernel
/-- the tables when c classes and n subs are in -/
def sysS (c n : Nat) (s : iS) : iS := fun c' k' => if c' = 165 ∧ k' < c then sysCA.getD k' 0 else if c' = 164 ∧ k' < c then sysFI.getD k' 0 else if c' = 167 ∧ k' < n then sysME.getD k' 0 else if c' = 168 ∧ k' < n then sysMN.getD k' 0 else if c' = 166 ∧ k' < n then sysAT.getD k' 0 else s c' k'
theorem sysS_0 (s : iS) : sysS 0 0 s = s := by
  funext c' k'
  simp [sysS]
theorem sysS_c {c n : Nat} {s : iS} {x y : Int} (hx : sysCA.getD c 0 = x) (hy : sysFI.getD c 0 = y) : up (up (sysS c n s) 165 c x) 164 c y = sysS (c + 1) n s := by
  funext c' k'
  simp only [up_at, sysS]
  by_cases h1 : c' = 165
  · subst h1
    by_cases h2 : k' = c
    · subst h2; subst hx; simp
    · have : k' < c + 1 ↔ k' < c := by omega
      simp [h2, this]
  · by_cases h3 : c' = 164
    · subst h3
      by_cases h2 : k' = c
      · subst h2; subst hy; simp
      · have : k' < c + 1 ↔ k' < c := by omega
        simp [h2, this]
    · simp [h1, h3]
theorem sysS_n {c n : Nat} {s : iS} {x y z : Int} (hx : sysME.getD n 0 = x) (hy : sysMN.getD n 0 = y) (hz : sysAT.getD n 0 = z) : up (up (up (sysS c n s) 167 n x) 168 n y) 166 n z = sysS c (n + 1) s := by
  funext c' k'
  simp only [up_at, sysS]
  by_cases h1 : c' = 166
  · subst h1
    by_cases h2 : k' = n
    · subst h2; subst hz; simp
    · have : k' < n + 1 ↔ k' < n := by omega
      simp [h2, this]
  · by_cases h3 : c' = 168
    · subst h3
      by_cases h2 : k' = n
      · subst h2; subst hy; simp
      · have : k' < n + 1 ↔ k' < n := by omega
        simp [h2, this]
    · by_cases h4 : c' = 167
      · subst h4
        by_cases h2 : k' = n
        · subst h2; subst hx; simp
        · have : k' < n + 1 ↔ k' < n := by omega
          simp [h2, this]
      · simp [h1, h3, h4]
theorem sys97_ok {v1 v2 : Int} {k k' : Nat} (hk : k < k') (hk' : k' ≤ 465) (h32 : k5 (k' - 1) = 32) (hs : (List.range (k' - 1 - k)).all (fun i => decide (rg (k5 (k + i)) ∧ k5 (k + i) ≠ 32)) = true) (s : iS) : m_system_97 v1 v2 (k : Int) s = some (.inl (v1, v2, (k' : Int), s)) := by
  unfold m_system_97
  have hn : ∀ m, k ≤ m → m < k' - 1 → rg (k5 m) ∧ k5 m ≠ 32 := by
    intro m h1 h2
    have := List.all_eq_true.mp hs (m - k) (List.mem_range.mpr (by omega))
    rw [show k + (m - k) = m by omega] at this
    exact of_decide_eq_true this
  obtain ⟨e, he, h1, h2⟩ : Wp (lp (L := Int × iS) (E := Int × iS) (fun l => m_system_97b v1 v2 (l.1) (l.2)) ((k : Int), s)) (fun e => e.1 = ((k' - 1 : Nat) : Int) ∧ e.2 = s) := by
    refine wp_lp (fun l : Int × iS => ∃ m : Nat, k ≤ m ∧ m ≤ k' - 1 ∧ l.1 = (m : Int) ∧ l.2 = s) (fun l => (465 - l.1).toNat) ?_ ⟨k, by omega, by omega, rfl, rfl⟩
    rintro ⟨p, u⟩ ⟨m, i1, i2, i3, i4⟩
    simp only at i3 i4
    subst i3 i4
    simp only [m_system_97b, Int.toNat_natCast]
    by_cases hm : m = k' - 1
    · have h3 : k5 m = 32 := by rw [hm]; exact h32
      rw [gd_pos (by omega), gd_pos (show rg ((ka_5 m).toInt) from by show rg (k5 m); rw [h3]; decide), if_pos (show (ka_5 m).toInt = 32 from h3)]
      exact wp_some.mpr ⟨by simp only; rw [hm], rfl⟩
    · have h3 := hn m i1 (by omega)
      rw [gd_pos (by omega), gd_pos (show rg ((ka_5 m).toInt) from h3.1), if_neg (show ¬ (ka_5 m).toInt = 32 from h3.2)]
      exact wp_some.mpr ⟨⟨m + 1, by omega, by omega, by simp only; omega, rfl⟩, by simp only; omega⟩
  rw [he]
  obtain ⟨p, u⟩ := e
  simp only at h1 h2
  subst h1 h2
  show some (Sum.inl (v1, v2, ((k' - 1 : Nat) : Int) + 1, u)) = _
  rw [show ((k' - 1 : Nat) : Int) + 1 = (k' : Int) by omega]
def sysT (s : iS) : iS := up (sysS 8 40 s) 164 8 40
theorem zb_sysT {s : iS} (hz : zb 234 s) : zb 234 (sysT s) := by
  intro c hc
  funext k
  show sysT s c k = 0
  unfold sysT
  rw [up_ne (by omega)]
  unfold sysS
  rw [if_neg (by omega), if_neg (by omega), if_neg (by omega), if_neg (by omega), if_neg (by omega), hz c hc]
theorem m_system_ok (s : iS) : m_system s = some (0, sysT s) := by
  unfold m_system m_system_6
  obtain ⟨e, he, h1, h2⟩ : Wp (lp (L := Int × Int × Int × iS) (E := Int × iS) (fun l => m_system_6b (l.1) (l.2.1) (l.2.2.1) (l.2.2.2)) (0, 0, 0, s)) (fun e => e.1 = 40 ∧ e.2 = sysS 8 40 s) := by
    refine wp_lp (fun l : Int × Int × Int × iS => ∃ i : Nat, i ≤ 48 ∧ l.1 = ((sysE.getD i (0, 0, 0)).1 : Int) ∧ l.2.1 = ((sysE.getD i (0, 0, 0)).2.1 : Int) ∧ l.2.2.1 = ((sysE.getD i (0, 0, 0)).2.2 : Int) ∧ l.2.2.2 = sysS (sysE.getD i (0, 0, 0)).1 (sysE.getD i (0, 0, 0)).2.1 s) (fun l => (465 - l.2.2.1).toNat) ?_ ⟨0, by omega, rfl, rfl, rfl, (sysS_0 s).symm⟩
    rintro ⟨p, q, r, u⟩ ⟨i, i1, i2, i3, i4, i5⟩
    simp only at i2 i3 i4 i5
    subst i2 i3 i4 i5
    simp only [m_system_6b]
    by_cases h48 : i = 48
    · subst h48
      have e0 : sysE.getD 48 (0, 0, 0) = (8, 40, 465) := by decide
      rw [e0, gd_pos (by decide), if_pos (by decide)]
      exact wp_some.mpr ⟨rfl, rfl⟩
    have hck := List.all_eq_true.mp sysE_ok i (List.mem_range.mpr (by omega))
    generalize sysE.getD i (0, 0, 0) = z at hck ⊢
    have hz' : ∃ z', z' = sysE.getD (i + 1) (0, 0, 0) := ⟨_, rfl⟩
    obtain ⟨z', hz'⟩ := hz'
    rw [← hz'] at hck
    unfold chkE at hck
    rw [Bool.and_eq_true] at hck
    obtain ⟨hc1, hc2⟩ := hck
    have hc1 := of_decide_eq_true hc1
    obtain ⟨a1, a2, a3, a4, a5, a6, a7, a8⟩ := hc1
    rw [gd_pos (show rg (z.2.2 : Int) from ⟨by omega, by omega⟩), if_neg (by omega), gd_pos (by omega)]
    simp only [Int.toNat_natCast]
    rw [gd_pos (show rg ((ka_5 z.2.2).toInt) from a6)]
    by_cases c1 : k5 z.2.2 = 33
    · rw [if_pos c1] at a8
      obtain ⟨b1, b2, b3, b4, b5⟩ := a8
      rw [if_pos (show (ka_5 z.2.2).toInt = 33 from c1), gd_pos (by omega)]
      simp only [lt_eq]
      rw [gd_pos (by omega)]
      rw [sysS_c b4 b5, sys97_ok a4 a5 a7 hc2]
      refine wp_some.mpr ⟨⟨i + 1, by omega, ?_, ?_, ?_, ?_⟩, by simp only; omega⟩
      · simp only; rw [← hz', b2]; omega
      · simp only; rw [← hz', b3]
      · simp only; rw [← hz']
      · simp only; rw [← hz', b2, b3]
    · rw [if_neg c1] at a8
      obtain ⟨b1, b2, b3, b4, b5, b6, b7⟩ := a8
      have fin : ∀ x : Int, b01 x → sysME.getD z.2.1 0 = x → Wp (m_system_67 (z.1 : Int) (z.2.1 : Int) (z.2.2 : Int) x (z.2.1 : Int) (sysS z.1 z.2.1 s)) (fun r => r.elim (fun l' => (∃ i : Nat, i ≤ 48 ∧ l'.1 = ((sysE.getD i (0, 0, 0)).1 : Int) ∧ l'.2.1 = ((sysE.getD i (0, 0, 0)).2.1 : Int) ∧ l'.2.2.1 = ((sysE.getD i (0, 0, 0)).2.2 : Int) ∧ l'.2.2.2 = sysS (sysE.getD i (0, 0, 0)).1 (sysE.getD i (0, 0, 0)).2.1 s) ∧ (465 - l'.2.2.1).toNat < (465 - (z.2.2 : Int)).toNat) (fun e => e.1 = 40 ∧ e.2 = sysS 8 40 s)) := by
        intro x hx hx2
        have b6' : sysMN.getD z.2.1 0 = (ka_5 (z.2.2 + 1)).toInt - 48 := b6
        unfold m_system_67
        rw [gd_pos (by omega), gd_pos hx]
        simp only [lt_eq, Int.toNat_natCast]
        rw [gd_pos (by omega), gd_pos (by omega), show ((z.2.2 : Int) + 1).toNat = z.2.2 + 1 by omega, sysS_n hx2 b6' b7, sys97_ok a4 a5 a7 hc2]
        refine wp_some.mpr ⟨⟨i + 1, by omega, ?_, ?_, ?_, ?_⟩, by simp only; omega⟩
        · simp only; rw [← hz', b2]
        · simp only; rw [← hz', b3]; omega
        · simp only; rw [← hz']
        · simp only; rw [← hz', b2, b3]
      rw [if_neg (show ¬ (ka_5 z.2.2).toInt = 33 from c1)]
      by_cases c2 : k5 z.2.2 = 35
      · rw [if_pos (show (ka_5 z.2.2).toInt = 35 from c2)]
        exact fin 1 (Or.inr rfl) (by rw [b5, if_pos c2])
      · rw [if_neg (show ¬ (ka_5 z.2.2).toInt = 35 from c2)]
        exact fin 0 (Or.inl rfl) (by rw [b5, if_neg c2])
  rw [he]
  obtain ⟨p, u⟩ := e
  simp only at h1 h2
  subst h1 h2
  rfl
