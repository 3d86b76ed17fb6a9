/-! a heap that numbers make: H. Ho, Ha: at c it has an object, a row, whose numbers are those at c, and may be written -/
def rowc (t n : Nat) (g : Nat → Int) : am_C := .inl (t, n, if t = 1 then .inr (.inl (fun k => Int64.ofInt (g k))) else .inl (fun k => Int32.ofInt (g k)))
def objv (g : Nat → Int) (k : Nat) : Option Nat → Value
  | some a => .ref (tb_nK + a)
  | none => .int (Int32.ofInt (g k))
def objc (ci : Nat) (fs : List (Option Nat)) (g : Nat → Int) : am_C := .inr (ci, fs.mapIdx (fun k f => objv g k f))
def sr (s : iS) (c : Nat) (g : Nat → Int) : iS := fun c' k' => if c' = c then g k' else s c' k'
def u1 (g : Nat → Int) (k : Nat) (x : Int) : Nat → Int := fun k' => if k' = k then x else g k'
def Ho (H : iS → List am_C) (c ci : Nat) (fs : List (Option Nat)) : Prop := (∀ s, (H s)[c]? = some (objc ci fs (s c))) ∧ ∀ s g, (H s).set c (objc ci fs g) = H (sr s c g)
def Ha (H : iS → List am_C) (c t n : Nat) : Prop := (∀ s, (H s)[c]? = some (rowc t n (s c))) ∧ ∀ s g, (H s).set c (rowc t n g) = H (sr s c g)
section HO
variable {H : iS → List am_C} {s : iS} {c k ci n : Nat} {st : List Value} {x : Int} {fs : List (Option Nat)}
theorem sr_u1 : sr s c (u1 (s c) k x) = up s c k x := by
  funext c' k'
  simp only [sr, u1, up]
  by_cases h1 : c' = c
  · subst h1
    by_cases h2 : k' = k <;> simp [h2]
  · simp [h1]
theorem u1_i (g : Nat → Int) : upd (fun k => Int32.ofInt (g k)) k (Int32.ofInt x) = fun k' => Int32.ofInt (u1 g k x k') := by
  funext k'
  simp only [upd, u1]
  split <;> rfl
theorem u1_l (g : Nat → Int) : vp_updL (fun k => Int64.ofInt (g k)) k (Int64.ofInt x) = fun k' => Int64.ofInt (u1 g k x k') := by
  funext k'
  simp only [vp_updL, u1]
  split <;> rfl
theorem objc_at {f : Option Nat} (g : Nat → Int) (h : fs[k]? = some f) : (fs.mapIdx (fun k f => objv g k f))[k]? = some (objv g k f) := by
  rw [List.getElem?_mapIdx, h]
  rfl
theorem objc_u1 (g : Nat → Int) (h : fs[k]? = some none) : (fs.mapIdx (fun k f => objv g k f)).set k (.int (Int32.ofInt x)) = fs.mapIdx (fun k' f => objv (u1 g k x) k' f) := by
  refine List.ext_getElem? fun i => ?_
  by_cases hi : i = k
  · subst hi
    have hk : i < (fs.mapIdx (fun k f => objv g k f)).length := by rw [List.length_mapIdx]; exact (List.getElem?_eq_some_iff.mp h).1
    rw [List.getElem?_set_self hk, List.getElem?_mapIdx, h]
    simp [objv, u1]
  · rw [List.getElem?_set_ne (Ne.symm hi), List.getElem?_mapIdx, List.getElem?_mapIdx]
    cases fs[i]? with
    | none => rfl
    | some f =>
      cases f with
      | some a => rfl
      | none => simp [objv, u1, hi]
theorem ho_get {ix : Nat} {f : Option Nat} (hc : Ho H c ci fs) (hf : fs[k]? = some f) : am_hp [] tb_nK tb_df tb_ft (.getfield ix, ci, k, 0) (.ref (tb_nK + c) :: st) (H s) = some (objv (s c) k f :: st, H s, 0, 0) := by
  simp only [am_hp]
  rw [if_neg (hp_nK c), hp_sub, hc.1]
  simp only [objc]
  rw [if_pos trivial, objc_at _ hf]
theorem ho_put {ix : Nat} (hc : Ho H c ci fs) (hf : fs[k]? = some none) (hx : am_fit (tb_ft ci k) (.int (Int32.ofInt x)) = true) : am_hp [] tb_nK tb_df tb_ft (.putfield ix, ci, k, 0) (.int (Int32.ofInt x) :: .ref (tb_nK + c) :: st) (H s) = some (st, H (up s c k x), 0, 0) := by
  simp only [am_hp]
  have hk : k < (fs.mapIdx (fun k f => objv (s c) k f)).length := by rw [List.length_mapIdx]; exact (List.getElem?_eq_some_iff.mp hf).1
  rw [if_neg (hp_nK c), hp_sub, hc.1]
  simp only [objc]
  rw [if_pos ⟨trivial, hk, hx⟩, objc_u1 _ hf]
  have := hc.2 s (u1 (s c) k x)
  rw [sr_u1] at this
  rw [← this]
  rfl
theorem ha_len {t : Nat} (hc : Ha H c t n) (ht : t < 5) : am_hp [] tb_nK tb_df tb_ft (.arraylength, 0, 0, 0) (.ref (tb_nK + c) :: st) (H s) = some (.int (Int32.ofNat n) :: st, H s, 0, 0) := by
  simp only [am_hp, am_at]
  rw [if_neg (hp_nK c), hp_sub, hc.1]
  simp only [rowc]
  rw [if_pos ht]
theorem ha_ild {i : Int32} (hc : Ha H c 0 n) (hi : ¬ (i < 0 ∨ n ≤ i.toNatClampNeg)) : am_hp [] tb_nK tb_df tb_ft (.iaload, 0, 0, 0) (.int i :: .ref (tb_nK + c) :: st) (H s) = some (.int (Int32.ofInt (s c i.toNatClampNeg)) :: st, H s, 0, 0) := by
  simp only [am_hp, am_at]
  rw [if_neg (hp_nK c), hp_sub, hc.1]
  simp [rowc, hi]
theorem ha_zld {i : Int32} (hc : Ha H c 4 n) (hi : ¬ (i < 0 ∨ n ≤ i.toNatClampNeg)) : am_hp [] tb_nK tb_df tb_ft (.baload, 0, 0, 0) (.int i :: .ref (tb_nK + c) :: st) (H s) = some (.int (Int32.ofInt (s c i.toNatClampNeg)) :: st, H s, 0, 0) := by
  simp only [am_hp, am_at]
  rw [if_neg (hp_nK c), hp_sub, hc.1]
  simp [rowc, hi]
theorem ha_lld {i : Int32} (hc : Ha H c 1 n) (hi : ¬ (i < 0 ∨ n ≤ i.toNatClampNeg)) : am_hp [] tb_nK tb_df tb_ft (.laload, 0, 0, 0) (.int i :: .ref (tb_nK + c) :: st) (H s) = some (.long (Int64.ofInt (s c i.toNatClampNeg)) :: st, H s, 0, 0) := by
  simp only [am_hp, am_at]
  rw [if_neg (hp_nK c), hp_sub, hc.1]
  simp [rowc, hi]
theorem ha_ist {i : Int32} (hc : Ha H c 0 n) (hi : ¬ (i < 0 ∨ n ≤ i.toNatClampNeg)) : am_hp [] tb_nK tb_df tb_ft (.iastore, 0, 0, 0) (.int (Int32.ofInt x) :: .int i :: .ref (tb_nK + c) :: st) (H s) = some (st, H (up s c i.toNatClampNeg x), 0, 0) := by
  simp only [am_hp]
  have e0 : (H s)[c]? = some (.inl (0, n, .inl (fun k => Int32.ofInt (s c k)))) := hc.1 s
  rw [if_neg (hp_nK c), hp_sub, e0]
  simp only
  rw [if_neg hi, u1_i]
  have := hc.2 s (u1 (s c) i.toNatClampNeg x)
  rw [sr_u1] at this
  rw [← this]
  rfl
theorem ha_zst {i : Int32} (hc : Ha H c 4 n) (hi : ¬ (i < 0 ∨ n ≤ i.toNatClampNeg)) (hx : vp_nar .boolean (Int32.ofInt x) = Int32.ofInt x) : am_hp [] tb_nK tb_df tb_ft (.bastore, 0, 0, 0) (.int (Int32.ofInt x) :: .int i :: .ref (tb_nK + c) :: st) (H s) = some (st, H (up s c i.toNatClampNeg x), 0, 0) := by
  simp only [am_hp]
  have e0 : (H s)[c]? = some (.inl (4, n, .inl (fun k => Int32.ofInt (s c k)))) := hc.1 s
  rw [if_neg (hp_nK c), hp_sub, e0]
  simp only
  rw [if_neg hi, hx, u1_i]
  have := hc.2 s (u1 (s c) i.toNatClampNeg x)
  rw [sr_u1] at this
  rw [← this]
  rfl
theorem ha_lst {i : Int32} (hc : Ha H c 1 n) (hi : ¬ (i < 0 ∨ n ≤ i.toNatClampNeg)) : am_hp [] tb_nK tb_df tb_ft (.lastore, 0, 0, 0) (.long (Int64.ofInt x) :: .int i :: .ref (tb_nK + c) :: st) (H s) = some (st, H (up s c i.toNatClampNeg x), 0, 0) := by
  simp only [am_hp]
  have e0 : (H s)[c]? = some (.inl (1, n, .inr (.inl (fun k => Int64.ofInt (s c k))))) := hc.1 s
  rw [if_neg (hp_nK c), hp_sub, e0]
  simp only
  rw [if_neg hi, u1_l]
  have := hc.2 s (u1 (s c) i.toNatClampNeg x)
  rw [sr_u1] at this
  rw [← this]
  rfl
end HO
/-! the heap behind the constructors -/
section HT
variable {tp : List hp_T} {c n t ci : Nat} {fs : List (Option Nat)}
theorem hp_o (s : iS) : hp_c (ih s) c (.inl (ci, fs)) = objc ci fs (s c) := by
  show Sum.inr (ci, hp_f (ih s) c fs) = Sum.inr (ci, _)
  have : hp_f (ih s) c fs = fs.mapIdx (fun k f => objv (s c) k f) := by
    unfold hp_f
    congr 1
  rw [this]
theorem hp_r (s : iS) : hp_c (ih s) c (.inr (t, n)) = rowc t n (s c) := rfl
theorem hp_sr {y : hp_T} {z : am_C} {g : Nat → Int} (h : tp[c]? = some y) (hz : ∀ s : iS, s c = g → hp_c (ih s) c y = z) (s : iS) : (hp tp (ih s)).set c z = hp tp (ih (sr s c g)) := by
  refine hp_set (t' := y) h (hz _ ?_) (fun c' hc => ⟨?_, ?_⟩)
  · funext k; simp [sr]
  · funext k; simp [ih, sr, hc]
  · funext k; simp [ih, sr, hc]
theorem ho_hp (h : tp[c]? = some (.inl (ci, fs))) : Ho (fun s => hp tp (ih s)) c ci fs :=
  ⟨fun s => by rw [← hp_o]; exact hp_at _ h, fun s g => hp_sr h (fun s' e => by rw [hp_o, e]) s⟩
theorem ha_hp (h : tp[c]? = some (.inr (t, n))) : Ha (fun s => hp tp (ih s)) c t n :=
  ⟨fun s => by rw [← hp_r]; exact hp_at _ h, fun s g => hp_sr h (fun s' e => by rw [hp_r, e]) s⟩
end HT
