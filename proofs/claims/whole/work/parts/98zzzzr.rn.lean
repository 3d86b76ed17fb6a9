/-! where the commands of an item stand -/
def emL : Int → List crc → List crec
  | _, [] => []
  | pm, x :: xs => (x.1, x.2.1, x.2.2.1, x.2.2.2, pm) :: emL (-1) xs
def pmL (pm : Int) (xs : List crc) : Int := if xs = [] then pm else -1
def cmM (P : Nat → Nat) (em : itm → List crc) : Int → List itm → List crec
  | _, [] => []
  | pm, r :: l => if r.1 = 11 ∨ r.1 = 17 then cmM P em (P r.2.2.2.toNat : Int) l else emL pm (em r) ++ cmM P em (pmL pm (em r)) l
def pmM (P : Nat → Nat) (em : itm → List crc) : Int → List itm → Int
  | pm, [] => pm
  | pm, r :: l => if r.1 = 11 ∨ r.1 = 17 then pmM P em (P r.2.2.2.toNat : Int) l else pmM P em (pmL pm (em r)) l
section RNe
variable {P : Nat → Nat} {em : itm → List crc} {pm : Int} {l l1 l2 : List itm} {xs : List crc} {a : List crec × Int} {cs0 cs : List crec} {hd : List crc} {ob : Int → Nat} {e0 : itm → Bool}
theorem pmL_n : pmL (-1) xs = -1 := by unfold pmL; split <;> rfl
theorem emA_eq : ∀ (xs : List crc) (a : List crec × Int), emA a xs = (a.1 ++ emL a.2 xs, pmL a.2 xs)
  | [], a => by
    show a = (a.1 ++ [], a.2)
    rw [List.append_nil]
  | x :: xs, a => by
    show emA (a.1 ++ [(x.1, x.2.1, x.2.2.1, x.2.2.2, a.2)], -1) xs = _
    rw [emA_eq xs, pmL_n, List.append_assoc]
    rfl
theorem emL_len : ∀ (xs : List crc) (pm : Int), (emL pm xs).length = xs.length
  | [], _ => rfl
  | x :: xs, _ => by
    show (emL (-1) xs).length + 1 = xs.length + 1
    rw [emL_len xs]
theorem emL_at : ∀ (xs : List crc) (pm : Int) (m : Nat), m < xs.length → (emL pm xs).getD m (0, 0, 0, 0, 0) = ((xs.getD m (0, 0, 0, 0)).1, (xs.getD m (0, 0, 0, 0)).2.1, (xs.getD m (0, 0, 0, 0)).2.2.1, (xs.getD m (0, 0, 0, 0)).2.2.2, if m = 0 then pm else -1)
  | [], _, m, h => by simp at h
  | x :: xs, pm, 0, _ => rfl
  | x :: xs, pm, m + 1, h => by
    show (emL (-1) xs).getD m (0, 0, 0, 0, 0) = _
    rw [emL_at xs (-1) m (by rw [List.length_cons] at h; omega), ite_self]
    rfl
theorem cmM_y {r : itm} (c : r.1 = 11 ∨ r.1 = 17) : cmM P em pm (r :: l) = cmM P em (P r.2.2.2.toNat : Int) l := if_pos c
theorem cmM_n {r : itm} (c : ¬ (r.1 = 11 ∨ r.1 = 17)) : cmM P em pm (r :: l) = emL pm (em r) ++ cmM P em (pmL pm (em r)) l := if_neg c
theorem pmM_y {r : itm} (c : r.1 = 11 ∨ r.1 = 17) : pmM P em pm (r :: l) = pmM P em (P r.2.2.2.toNat : Int) l := if_pos c
theorem pmM_n {r : itm} (c : ¬ (r.1 = 11 ∨ r.1 = 17)) : pmM P em pm (r :: l) = pmM P em (pmL pm (em r)) l := if_neg c
theorem fold_eq : ∀ (l : List itm) (a : List crec × Int), l.foldl (emS P em) a = (a.1 ++ cmM P em a.2 l, pmM P em a.2 l)
  | [], a => by
    show a = (a.1 ++ [], a.2)
    rw [List.append_nil]
  | r :: l, a => by
    rw [List.foldl_cons, fold_eq l]
    unfold emS
    by_cases c : r.1 = 11 ∨ r.1 = 17
    · rw [if_pos c, cmM_y c, pmM_y c]
    · rw [if_neg c, cmM_n c, pmM_n c, emA_eq, List.append_assoc]
theorem cmM_app : ∀ (l1 : List itm) (pm : Int), cmM P em pm (l1 ++ l2) = cmM P em pm l1 ++ cmM P em (pmM P em pm l1) l2
  | [], pm => rfl
  | r :: l, pm => by
    rw [List.cons_append]
    by_cases c : r.1 = 11 ∨ r.1 = 17
    · rw [cmM_y c, cmM_y c, pmM_y c, cmM_app l]
    · rw [cmM_n c, cmM_n c, pmM_n c, cmM_app l, List.append_assoc]
theorem cmM_len (h : ∀ r, r.1 = 11 ∨ r.1 = 17 → em r = []) : ∀ (l : List itm) (pm : Int), (cmM P em pm l).length = (l.flatMap em).length
  | [], pm => rfl
  | r :: l, pm => by
    rw [List.flatMap_cons, List.length_append]
    by_cases c : r.1 = 11 ∨ r.1 = 17
    · rw [cmM_y c, cmM_len h l, h r c]
      simp
    · rw [cmM_n c, List.length_append, cmM_len h l, emL_len]
/-- the mark that waits, out of the annotation -/
theorem pmM_fd (h : ∀ r, e0 r = true ↔ em r = []) : ∀ (l : List itm) (a : aS), (fdA P ob e0 a l).2.2.2 = pmM P em a.2.2.2 l
  | [], a => rfl
  | r :: l, a => by
    rw [fdA_cons, pmM_fd h l]
    have e : (nxA P ob e0 a r).2.2.2 = if r.1 = 11 ∨ r.1 = 17 then (P r.2.2.2.toNat : Int) else if e0 r = true then a.2.2.2 else -1 := rfl
    rw [e]
    by_cases c : r.1 = 11 ∨ r.1 = 17
    · rw [if_pos c, pmM_y c]
    · rw [if_neg c, pmM_n c]
      unfold pmL
      by_cases z : em r = []
      · rw [if_pos z, if_pos ((h r).mpr z)]
      · rw [if_neg z, if_neg (fun q => z ((h r).mp q))]
/-- the commands of an item -/
theorem cmM_at (h : ∀ r, r.1 = 11 ∨ r.1 = 17 → em r = []) {i m : Nat} (hi : i < l.length) (hm : m < (em (l.getD i (0, 0, 0, 0))).length) : (cmM P em pm l).getD (((l.take i).flatMap em).length + m) (0, 0, 0, 0, 0) = (((em (l.getD i (0, 0, 0, 0))).getD m (0, 0, 0, 0)).1, ((em (l.getD i (0, 0, 0, 0))).getD m (0, 0, 0, 0)).2.1, ((em (l.getD i (0, 0, 0, 0))).getD m (0, 0, 0, 0)).2.2.1, ((em (l.getD i (0, 0, 0, 0))).getD m (0, 0, 0, 0)).2.2.2, if m = 0 then pmM P em pm (l.take i) else -1) := by
  have nk : ¬ ((l.getD i (0, 0, 0, 0)).1 = 11 ∨ (l.getD i (0, 0, 0, 0)).1 = 17) := fun q => by rw [h _ q] at hm; simp at hm
  have e : l = l.take i ++ l.getD i (0, 0, 0, 0) :: l.drop (i + 1) := by
    conv => lhs; rw [← List.take_append_drop i l, List.drop_eq_getElem_cons hi]
    rw [List.getD_eq_getElem?_getD, List.getElem?_eq_getElem hi]
    rfl
  have e2 : cmM P em pm l = cmM P em pm (l.take i) ++ (emL (pmM P em pm (l.take i)) (em (l.getD i (0, 0, 0, 0))) ++ cmM P em (pmL (pmM P em pm (l.take i)) (em (l.getD i (0, 0, 0, 0)))) (l.drop (i + 1))) := by
    conv => lhs; rw [e]
    rw [cmM_app]
    rw [cmM_n nk]
  rw [e2, gdR (by rw [cmM_len h]; omega), cmM_len h, Nat.add_sub_cancel_left, gdL (by rw [emL_len]; exact hm), emL_at _ _ _ hm]
/-- all commands before the jumps get their targets -/
theorem blk_eq : (l.foldl (emS P em) (emA (cs0, -1) hd)).1 = cs0 ++ emL (-1) hd ++ cmM P em (-1) l := by
  rw [fold_eq, emA_eq, pmL_n]
/-- the label's command is the only one -/
theorem lbN_u {st : Nat} {lab : Int} {k : Nat} (hk : st ≤ k) (h1 : (cs.getD k (0, 0, 0, 0, 0)).1 = 11 ∧ (cs.getD k (0, 0, 0, 0, 0)).2.1 = lab) : ∀ n, k < n → (∀ k', k < k' → k' < n → ¬ ((cs.getD k' (0, 0, 0, 0, 0)).1 = 11 ∧ (cs.getD k' (0, 0, 0, 0, 0)).2.1 = lab)) → lbN cs st lab n = ((k + 1 : Nat) : Int)
  | 0, h, _ => by omega
  | n + 1, h, hu => by
    unfold lbN
    by_cases c : n = k
    · subst c
      rw [if_pos ⟨hk, h1⟩]
    · rw [if_neg (fun q => hu n (by omega) (by omega) q.2)]
      exact lbN_u hk h1 n (by omega) (fun k' z1 z2 => hu k' z1 (by omega))
end RNe
