/-! class and reference side by side: mx s t has the class's cells of s and the reference's of t -/
def mx (s t : iS) : iS := fun c => if c < 121 then s c else t c
theorem mx_self (s : iS) : mx s s = s := by
  funext c
  simp [mx]
theorem mx_c {s t : iS} {c : Nat} (h : c < 121) : mx s t c = s c := if_pos h
theorem mx_r {s t : iS} {c : Nat} (h : 121 ≤ c) : mx s t c = t c := if_neg (by omega)
/-- the class's functions change class cells alone, the reference's its own -/
def ofC (L : List Nat) (F : List (Nat × Nat)) : Bool := L.all (fun c => Nat.blt c 121) && F.all (fun q => Nat.blt q.1 121)
def ofR (L : List Nat) (F : List (Nat × Nat)) : Bool := L.all (fun c => Nat.ble 121 c) && F.all (fun q => Nat.ble 121 q.1)
theorem ofC_ok {L : List Nat} {F : List (Nat × Nat)} {s s' : iS} (h : ofC L F = true) (hm : md L F s s') {c : Nat} (hc : 121 ≤ c) : s' c = s c := by
  unfold ofC at h
  rw [Bool.and_eq_true] at h
  refine md_row hm (fun q => ?_) (fun q => ?_)
  · have := List.all_eq_true.mp h.1 c q
    have := Nat.blt_eq.mp this
    omega
  · obtain ⟨z, hz, rfl⟩ := List.mem_map.mp q
    have := List.all_eq_true.mp h.2 z hz
    have := Nat.blt_eq.mp this
    omega
theorem ofR_ok {L : List Nat} {F : List (Nat × Nat)} {s s' : iS} (h : ofR L F = true) (hm : md L F s s') {c : Nat} (hc : c < 121) : s' c = s c := by
  unfold ofR at h
  rw [Bool.and_eq_true] at h
  refine md_row hm (fun q => ?_) (fun q => ?_)
  · have := List.all_eq_true.mp h.1 c q
    have := Nat.le_of_ble_eq_true this
    omega
  · obtain ⟨z, hz, rfl⟩ := List.mem_map.mp q
    have := List.all_eq_true.mp h.2 z hz
    have := Nat.le_of_ble_eq_true this
    omega
/-- from two runs side by side to one behind the other -/
theorem lock {x m : iS → Option (Int × iS)} {Lx Lm : List Nat} {Fx Fm' : List (Nat × Nat)} {Q Q' : iS → Prop} {V : Int → Prop} (fx : ∀ s, Fm Prod.snd Lx Fx s (x s)) (fm : ∀ s, Fm Prod.snd Lm Fm' s (m s)) (cx : ofC Lx Fx = true) (cm : ofR Lm Fm' = true) (h : ∀ s t, Q (mx s t) → ∃ r s' t', x s = some (r, s') ∧ m t = some (r, t') ∧ V r ∧ Q' (mx s' t')) {s : iS} (hs : Q s) : ∃ r s1 s2, x s = some (r, s1) ∧ m s1 = some (r, s2) ∧ V r ∧ Q' s2 := by
  obtain ⟨r, s', t0, h1, h2, h3, h4⟩ := h s s (by rw [mx_self]; exact hs)
  have e1 : mx s s' = s := by
    funext c
    by_cases hc : c < 121
    · exact mx_c hc
    · rw [mx_r (by omega)]
      exact ofC_ok cx (fx s _ h1) (by omega)
  obtain ⟨r2, s'', t', g1, g2, g3, g4⟩ := h s s' (by rw [e1]; exact hs)
  rw [h1] at g1
  cases g1
  refine ⟨r, s', t', h1, g2, g3, ?_⟩
  have e2 : mx s' t' = t' := by
    funext c
    by_cases hc : c < 121
    · rw [mx_c hc]
      exact (ofR_ok cm (fm s' _ g2) hc).symm
    · exact mx_r (by omega)
  rwa [e2] at g4
/-- a word about the rows D and the places E alone -/
def on (D : List Nat) (E : List (Nat × Nat)) (Q : iS → Prop) : Prop := ∀ s s' : iS, (∀ c ∈ D, s' c = s c) → (∀ q ∈ E, s' q.1 q.2 = s q.1 q.2) → Q s → Q s'
def chk (D : List Nat) (E : List (Nat × Nat)) (L : List Nat) (F : List (Nat × Nat)) : Bool := D.all (fun c => !L.contains c && !(F.map Prod.fst).contains c) && E.all (fun q => !L.contains q.1 && !F.contains q)
theorem chk_ok {D : List Nat} {E : List (Nat × Nat)} {L : List Nat} {F : List (Nat × Nat)} {s s' : iS} (h : chk D E L F = true) (hm : md L F s s') : (∀ c ∈ D, s' c = s c) ∧ (∀ q ∈ E, s' q.1 q.2 = s q.1 q.2) := by
  unfold chk at h
  rw [Bool.and_eq_true] at h
  refine ⟨fun c hc => ?_, fun q hq => ?_⟩
  · have := List.all_eq_true.mp h.1 c hc
    simp only [Bool.and_eq_true, Bool.not_eq_true', List.contains_eq_mem, decide_eq_false_iff_not] at this
    exact md_row hm this.1 this.2
  · have := List.all_eq_true.mp h.2 q hq
    simp only [Bool.and_eq_true, Bool.not_eq_true', List.contains_eq_mem, decide_eq_false_iff_not] at this
    exact hm q.1 q.2 this.1 this.2
theorem pres {D : List Nat} {E : List (Nat × Nat)} {Lx Lm : List Nat} {Fx Fm' : List (Nat × Nat)} {Q : iS → Prop} {s s' t t' : iS} (ho : on D E Q) (cx : chk D E Lx Fx = true) (cm : chk D E Lm Fm' = true) (hx : md Lx Fx s s') (hm : md Lm Fm' t t') (h : Q (mx s t)) : Q (mx s' t') := by
  obtain ⟨a1, a2⟩ := chk_ok cx hx
  obtain ⟨b1, b2⟩ := chk_ok cm hm
  refine ho _ _ (fun c hc => ?_) (fun q hq => ?_) h
  · unfold mx
    split
    · exact a1 c hc
    · exact b1 c hc
  · unfold mx
    split
    · exact a2 q hq
    · exact b2 q hq
