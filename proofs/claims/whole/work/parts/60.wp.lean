/-! what a function gives: Wp -/
def Wp {α : Type} (o : Option α) (Q : α → Prop) : Prop := ∃ a, o = some a ∧ Q a
section WP
variable {α β : Type} {a : α} {o : Option α} {Q Q' : α → Prop}
theorem wp_some : Wp (some a) Q ↔ Q a := by
  constructor
  · rintro ⟨b, h, q⟩
    cases h
    exact q
  · exact fun q => ⟨a, rfl, q⟩
theorem wp_none : Wp (none : Option α) Q ↔ False := by
  constructor
  · rintro ⟨b, h, q⟩
    cases h
  · intro q
    exact q.elim
theorem wp_gd {P : Prop} [Decidable P] : Wp (gd P o) Q ↔ P ∧ Wp o Q := by
  unfold gd
  constructor
  · rintro ⟨b, h, q⟩
    split at h
    · rename_i hp; exact ⟨hp, b, h, q⟩
    · cases h
  · rintro ⟨hp, b, h, q⟩
    exact ⟨b, by rw [if_pos hp]; exact h, q⟩
theorem wp_lt {b : β} {f : β → Option α} : Wp (lt' b f) Q ↔ Wp (f b) Q := Iff.rfl
theorem wp_ite {P : Prop} [Decidable P] {A B : Option α} : Wp (if P then A else B) Q ↔ (P → Wp A Q) ∧ (¬ P → Wp B Q) := by
  constructor
  · intro h
    refine ⟨fun hp => ?_, fun hp => ?_⟩
    · rwa [if_pos hp] at h
    · rwa [if_neg hp] at h
  · rintro ⟨h1, h2⟩
    split
    · rename_i hp; exact h1 hp
    · rename_i hp; exact h2 hp
theorem wp_bd {q : Option (Int × iS)} {k : Int → iS → Option α} : Wp (bd q k) Q ↔ Wp q (fun z => Wp (k z.1 z.2) Q) := by
  unfold bd
  cases q with
  | none =>
    constructor
    · rintro ⟨b, h, _⟩
      cases h
    · rintro ⟨b, h, _⟩
      cases h
  | some z => exact ⟨fun h => ⟨z, rfl, h⟩, fun h => by
    obtain ⟨b, e, q⟩ := h
    cases e
    exact q⟩
theorem wp_bind {q : Option β} {k : β → Option α} : Wp (q.bind k) Q ↔ Wp q (fun z => Wp (k z) Q) := by
  cases q with
  | none =>
    constructor
    · rintro ⟨b, h, _⟩
      cases h
    · rintro ⟨b, h, _⟩
      cases h
  | some z => exact ⟨fun h => ⟨z, rfl, h⟩, fun h => (wp_some (Q := fun z => Wp (k z) Q)).mp h⟩
theorem wp_mono (h : Wp o Q) (hq : ∀ b, Q b → Q' b) : Wp o Q' := by
  obtain ⟨b, e, q⟩ := h
  exact ⟨b, e, hq b q⟩
theorem wp_eq (e : o = some a) : Wp o Q ↔ Q a := by rw [e]; exact wp_some
theorem wp_of (h : Wp o (fun b => b = a)) : o = some a := by
  obtain ⟨b, e, rfl⟩ := h
  exact e
/-- a loop: what holds before every round, and what grows less -/
theorem wp_lp {L E : Type} {f : L → Option (L ⊕ E)} {R : E → Prop} (I : L → Prop) (m : L → Nat) (h : ∀ l, I l → Wp (f l) (fun r => r.elim (fun l' => I l' ∧ m l' < m l) R)) {l : L} (hl : I l) : Wp (lp f l) R := by
  suffices H : ∀ n l, m l < n → I l → Wp (lp f l) R from H (m l + 1) l (Nat.lt_succ_self _) hl
  intro n
  induction n with
  | zero => intro l h1; omega
  | succ n ihn =>
    intro l h1 h2
    obtain ⟨r, e, q⟩ := h l h2
    cases r with
    | inl l' => rw [lp_next e]; exact ihn l' (by have := q.2; omega) q.1
    | inr x => exact ⟨x, lp_end e, q⟩
end WP
section UP
variable {s : iS} {c k : Nat} {x : Int}
theorem up_ne {c' k' : Nat} (h : ¬ (c' = c ∧ k' = k)) : up s c k x c' k' = s c' k' := if_neg h
theorem up_cell {c' : Nat} (h : c' ≠ c) : up s c k x c' = s c' := by
  funext k'
  exact if_neg (fun q => h q.1)
end UP
