/-! a heap whose shape is fixed: objects whose references never change, rows of ints and longs; all else is numbers. tp: the shape; s: the numbers, by cell and place -/
abbrev hp_T : Type := (Nat × List (Option Nat)) ⊕ (Nat × Nat)
abbrev hp_S : Type := (Nat → Nat → Int32) × (Nat → Nat → Int64)
def hp_v (s : hp_S) (c k : Nat) : Option Nat → Value
  | some a => .ref (tb_nK + a)
  | none => .int (s.1 c k)
def hp_f (s : hp_S) (c : Nat) (fs : List (Option Nat)) : List Value := fs.mapIdx (fun k f => hp_v s c k f)
def hp_c (s : hp_S) (c : Nat) : hp_T → am_C
  | .inl (ci, fs) => .inr (ci, hp_f s c fs)
  | .inr (t, n) => .inl (t, n, if t = 1 then .inr (.inl (s.2 c)) else .inl (s.1 c))
def hp (tp : List hp_T) (s : hp_S) : List am_C := tp.mapIdx (fun c t => hp_c s c t)
/-- a number is written -/
def hp_u (s : hp_S) (c k : Nat) (x : Int32) : hp_S := (fun c' => if c' = c then upd (s.1 c) k x else s.1 c', s.2)
def hp_l (s : hp_S) (c k : Nat) (x : Int64) : hp_S := (s.1, fun c' => if c' = c then vp_updL (s.2 c) k x else s.2 c')
section HP
variable {tp : List hp_T} {s : hp_S} {c : Nat} {st : List Value}
theorem hp_at (h : hp_T) (hc : tp[c]? = some h) : (hp tp s)[c]? = some (hp_c s c h) := by
  rw [hp, List.getElem?_mapIdx, hc]
  rfl
theorem hp_len : (hp tp s).length = tp.length := by rw [hp, List.length_mapIdx]
theorem hp_f_at {fs : List (Option Nat)} {k : Nat} {f : Option Nat} (h : fs[k]? = some f) : (hp_f s c fs)[k]? = some (hp_v s c k f) := by
  rw [hp_f, List.getElem?_mapIdx, h]
  rfl
theorem hp_set {t t' : hp_T} {s' : hp_S} {x : am_C} (hc : tp[c]? = some t) (hx : hp_c s' c t = x) (ho : ∀ c', c' ≠ c → s'.1 c' = s.1 c' ∧ s'.2 c' = s.2 c') : (hp tp s).set c x = hp tp s' := by
  refine List.ext_getElem? fun i => ?_
  by_cases hi : i = c
  · subst hi
    rw [List.getElem?_set_self (by rw [hp_len]; exact (List.getElem?_eq_some_iff.mp hc).1), hp_at t hc, hx]
  · rw [List.getElem?_set_ne (Ne.symm hi), hp, hp, List.getElem?_mapIdx, List.getElem?_mapIdx]
    obtain ⟨e1, e2⟩ := ho i hi
    have key : ∀ t : hp_T, hp_c s i t = hp_c s' i t := by
      intro t
      rcases t with ⟨ci, fs⟩ | ⟨tg, n⟩
      · show Sum.inr (ci, hp_f s i fs) = Sum.inr (ci, hp_f s' i fs)
        have : hp_f s i fs = hp_f s' i fs := by
          unfold hp_f
          congr 1
          funext k f
          cases f with
          | some a => rfl
          | none => show Value.int (s.1 i k) = .int (s'.1 i k); rw [e1]
        rw [this]
      · show Sum.inl (tg, n, _) = Sum.inl (tg, n, _)
        rw [e1, e2]
    cases tp[i]? with
    | none => rfl
    | some t => show some (hp_c s i t) = some (hp_c s' i t); rw [key]
theorem hp_nK (c : Nat) : ¬ (tb_nK + c < tb_nK) := by omega
theorem hp_sub (c : Nat) : tb_nK + c - tb_nK = c := by omega
theorem hp_get {ci k ix : Nat} {fs : List (Option Nat)} {f : Option Nat} (hc : tp[c]? = some (.inl (ci, fs))) (hf : fs[k]? = some f) : am_hp [] tb_nK tb_df tb_ft (.getfield ix, ci, k, 0) (.ref (tb_nK + c) :: st) (hp tp s) = some (hp_v s c k f :: st, hp tp s, 0, 0) := by
  simp only [am_hp]
  rw [if_neg (hp_nK c), hp_sub, hp_at _ hc]
  simp only [hp_c]
  rw [if_pos trivial, hp_f_at hf]
theorem hp_put {ci k ix : Nat} {fs : List (Option Nat)} {x : Int32} (hc : tp[c]? = some (.inl (ci, fs))) (hf : fs[k]? = some none) (hx : am_fit (tb_ft ci k) (.int x) = true) : am_hp [] tb_nK tb_df tb_ft (.putfield ix, ci, k, 0) (.int x :: .ref (tb_nK + c) :: st) (hp tp s) = some (st, hp tp (hp_u s c k x), 0, 0) := by
  simp only [am_hp]
  have hk : k < (hp_f s c fs).length := by rw [hp_f, List.length_mapIdx]; exact (List.getElem?_eq_some_iff.mp hf).1
  have e0 : (hp tp s)[c]? = some (.inr (ci, hp_f s c fs)) := hp_at _ hc
  rw [if_neg (hp_nK c), hp_sub, e0]
  simp only
  rw [if_pos ⟨trivial, hk, hx⟩]
  have KEY : hp_f (hp_u s c k x) c fs = (hp_f s c fs).set k (.int x) := by
    refine List.ext_getElem? fun i => ?_
    by_cases hi : i = k
    · subst hi
      rw [List.getElem?_set_self hk, hp_f_at hf]
      simp [hp_v, hp_u, upd]
    · rw [List.getElem?_set_ne (Ne.symm hi), hp_f, hp_f, List.getElem?_mapIdx, List.getElem?_mapIdx]
      cases fs[i]? with
      | none => rfl
      | some f =>
        cases f with
        | some a => rfl
        | none => simp [hp_v, hp_u, upd, hi]
  have e1 : (hp tp s).set c (.inr (ci, (hp_f s c fs).set k (.int x))) = hp tp (hp_u s c k x) := by
    refine hp_set (t' := .inl (ci, fs)) hc ?_ (fun c' h => ⟨by show (if c' = c then _ else _) = _; rw [if_neg h], rfl⟩)
    show Sum.inr (ci, hp_f (hp_u s c k x) c fs) = Sum.inr (ci, (hp_f s c fs).set k (.int x))
    rw [KEY]
  rw [e1]
theorem hp_len_at {t n : Nat} (hc : tp[c]? = some (.inr (t, n))) (ht : t < 5) : am_hp [] tb_nK tb_df tb_ft (.arraylength, 0, 0, 0) (.ref (tb_nK + c) :: st) (hp tp s) = some (.int (Int32.ofNat n) :: st, hp tp s, 0, 0) := by
  simp only [am_hp, am_at]
  rw [if_neg (hp_nK c), hp_sub, hp_at _ hc]
  simp only [hp_c]
  rw [if_pos ht]
theorem hp_ild {n : Nat} {i : Int32} (hc : tp[c]? = some (.inr (0, n))) (hi : ¬ (i < 0 ∨ n ≤ i.toNatClampNeg)) : am_hp [] tb_nK tb_df tb_ft (.iaload, 0, 0, 0) (.int i :: .ref (tb_nK + c) :: st) (hp tp s) = some (.int (s.1 c i.toNatClampNeg) :: st, hp tp s, 0, 0) := by
  simp only [am_hp, am_at]
  rw [if_neg (hp_nK c), hp_sub, hp_at _ hc]
  simp [hp_c, hi]
theorem hp_zld {n : Nat} {i : Int32} (hc : tp[c]? = some (.inr (4, n))) (hi : ¬ (i < 0 ∨ n ≤ i.toNatClampNeg)) : am_hp [] tb_nK tb_df tb_ft (.baload, 0, 0, 0) (.int i :: .ref (tb_nK + c) :: st) (hp tp s) = some (.int (s.1 c i.toNatClampNeg) :: st, hp tp s, 0, 0) := by
  simp only [am_hp, am_at]
  rw [if_neg (hp_nK c), hp_sub, hp_at _ hc]
  simp [hp_c, hi]
theorem hp_lld {n : Nat} {i : Int32} (hc : tp[c]? = some (.inr (1, n))) (hi : ¬ (i < 0 ∨ n ≤ i.toNatClampNeg)) : am_hp [] tb_nK tb_df tb_ft (.laload, 0, 0, 0) (.int i :: .ref (tb_nK + c) :: st) (hp tp s) = some (.long (s.2 c i.toNatClampNeg) :: st, hp tp s, 0, 0) := by
  simp only [am_hp, am_at]
  rw [if_neg (hp_nK c), hp_sub, hp_at _ hc]
  simp [hp_c, hi]
theorem hp_ist {n : Nat} {i x : Int32} (hc : tp[c]? = some (.inr (0, n))) (hi : ¬ (i < 0 ∨ n ≤ i.toNatClampNeg)) : am_hp [] tb_nK tb_df tb_ft (.iastore, 0, 0, 0) (.int x :: .int i :: .ref (tb_nK + c) :: st) (hp tp s) = some (st, hp tp (hp_u s c i.toNatClampNeg x), 0, 0) := by
  simp only [am_hp]
  have e0 : (hp tp s)[c]? = some (.inl (0, n, .inl (s.1 c))) := hp_at _ hc
  rw [if_neg (hp_nK c), hp_sub, e0]
  simp only
  rw [if_neg hi, hp_set (s := s) (s' := hp_u s c i.toNatClampNeg x) (t' := .inr (0, n)) hc (by simp [hp_c, hp_u]) (fun c' h => ⟨by show (if c' = c then _ else _) = _; rw [if_neg h], rfl⟩)]
theorem hp_zst {n : Nat} {i x : Int32} (hc : tp[c]? = some (.inr (4, n))) (hi : ¬ (i < 0 ∨ n ≤ i.toNatClampNeg)) : am_hp [] tb_nK tb_df tb_ft (.bastore, 0, 0, 0) (.int x :: .int i :: .ref (tb_nK + c) :: st) (hp tp s) = some (st, hp tp (hp_u s c i.toNatClampNeg (vp_nar .boolean x)), 0, 0) := by
  simp only [am_hp]
  have e0 : (hp tp s)[c]? = some (.inl (4, n, .inl (s.1 c))) := hp_at _ hc
  rw [if_neg (hp_nK c), hp_sub, e0]
  simp only
  rw [if_neg hi, hp_set (s := s) (s' := hp_u s c i.toNatClampNeg (vp_nar .boolean x)) (t' := .inr (4, n)) hc (by simp [hp_c, hp_u]) (fun c' h => ⟨by show (if c' = c then _ else _) = _; rw [if_neg h], rfl⟩)]
theorem hp_lst {n : Nat} {i : Int32} {x : Int64} (hc : tp[c]? = some (.inr (1, n))) (hi : ¬ (i < 0 ∨ n ≤ i.toNatClampNeg)) : am_hp [] tb_nK tb_df tb_ft (.lastore, 0, 0, 0) (.long x :: .int i :: .ref (tb_nK + c) :: st) (hp tp s) = some (st, hp tp (hp_l s c i.toNatClampNeg x), 0, 0) := by
  simp only [am_hp]
  have e0 : (hp tp s)[c]? = some (.inl (1, n, .inr (.inl (s.2 c)))) := hp_at _ hc
  rw [if_neg (hp_nK c), hp_sub, e0]
  simp only
  rw [if_neg hi, hp_set (s := s) (s' := hp_l s c i.toNatClampNeg x) (t' := .inr (1, n)) hc (by simp [hp_c, hp_l]) (fun c' h => ⟨rfl, by show (if c' = c then _ else _) = _; rw [if_neg h]⟩)]
end HP
