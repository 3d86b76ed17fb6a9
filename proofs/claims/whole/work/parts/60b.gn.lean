/-! stepping: gr, bq, bn are no rfl-rules; loops that run to their end -/
theorem gr {α : Type} {v : Int} [Decidable (rg v)] {k : Option α} (h : -2147483648 ≤ v ∧ v ≤ 2147483647) : gd (rg v) k = k := gd_pos ⟨h.1, by omega⟩
theorem bq {α : Type} (v : Int) (s : iS) (k : Int → iS → Option α) : bd (some (v, s)) k = k v s := by unfold bd; simp
theorem bn {α β : Type} (a : α) (k : α → Option β) : (some a).bind k = k a := by simp
theorem lp_run {L E : Type} {f : L → Option (L ⊕ E)} (mk : Nat → L) (eo : E) (n : Nat) (h : ∀ i, i < n → f (mk i) = some (.inl (mk (i + 1)))) (hn : f (mk n) = some (.inr eo)) : ∀ k i, i + k = n → lp f (mk i) = some eo
  | 0, i, e => by
    have : i = n := by omega
    subst this
    exact lp_end hn
  | k + 1, i, e => by
    rw [lp_next (h i (by omega))]
    exact lp_run mk eo n h hn k (i + 1) (by omega)
theorem sr_up {s : iS} {c i : Nat} {g h : Nat → Int} {x : Int} (hx : x = g i) : up (sr s c (fun j => if j < i then g j else h j)) c i x = sr s c (fun j => if j < i + 1 then g j else h j) := by
  funext c' k'
  simp only [up_at, sr]
  by_cases h1 : c' = c
  · subst h1
    by_cases h2 : k' = i
    · subst h2
      rw [if_pos ⟨rfl, rfl⟩, if_pos rfl, if_pos (by omega), hx]
    · rw [if_neg (fun q => h2 q.2), if_pos rfl, if_pos rfl]
      by_cases h3 : k' < i
      · rw [if_pos h3, if_pos (by omega)]
      · rw [if_neg h3, if_neg (by omega)]
  · rw [if_neg (fun q => h1 q.1), if_neg h1, if_neg h1]
theorem sr_same {s : iS} {c i : Nat} {g h : Nat → Int} (hx : h i = g i) : sr s c (fun j => if j < i then g j else h j) = sr s c (fun j => if j < i + 1 then g j else h j) := by
  funext c' k'
  simp only [sr]
  by_cases h1 : c' = c
  · rw [if_pos h1, if_pos h1]
    by_cases h2 : k' = i
    · subst h2
      rw [if_neg (by omega), if_pos (by omega), hx]
    · by_cases h3 : k' < i
      · rw [if_pos h3, if_pos (by omega)]
      · rw [if_neg h3, if_neg (by omega)]
  · rw [if_neg h1, if_neg h1]
theorem sr_0 {s : iS} {c : Nat} {g : Nat → Int} : sr s c (fun j => if j < 0 then g j else s c j) = s := by
  funext c' k'
  simp only [sr]
  by_cases h1 : c' = c
  · rw [if_pos h1, if_neg (by omega), h1]
  · rw [if_neg h1]
theorem sr_at {s : iS} {c k : Nat} {g : Nat → Int} : sr s c g c k = g k := if_pos rfl
theorem sr_ne {s : iS} {c c' : Nat} {g : Nat → Int} (h : c' ≠ c) : sr s c g c' = s c' := by
  funext k
  exact if_neg h
