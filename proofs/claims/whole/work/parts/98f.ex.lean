/-! expressions: items, frames, what is live and what is dead -/
abbrev itm := Int × Int × Int × Int
/-- an item is put down -/
def adt (t : iS) (I : Nat) (a b c d : Int) : iS := up (up (up (up (up (up t 144 I a) 145 I b) 146 I c) 147 I d) 148 I (t 121 17 - 1)) 121 33 ((I + 1 : Nat) : Int)
theorem mad_ok {t : iS} {I : Nat} {a b c d : Int} (h : t 121 33 = (I : Int)) (hI : I < 5000) : m_add a b c d t = some ((I : Int), adt t I a b c d) := by
  unfold m_add adt
  simp only [lt_eq]
  rw [gd_pos (by omega)]
  rw [h, Int.toNat_natCast]
  have e1 : up t 144 I a 121 33 = (I : Int) := by rw [up_ne (by omega), h]
  rw [e1, Int.toNat_natCast, gd_pos (by omega)]
  have e2 : up (up t 144 I a) 145 I b 121 33 = (I : Int) := by rw [up_ne (by omega), e1]
  rw [e2, Int.toNat_natCast, gd_pos (by omega)]
  have e3 : up (up (up t 144 I a) 145 I b) 146 I c 121 33 = (I : Int) := by rw [up_ne (by omega), e2]
  rw [e3, Int.toNat_natCast, gd_pos (by omega)]
  have e4 : up (up (up (up t 144 I a) 145 I b) 146 I c) 147 I d 121 33 = (I : Int) := by rw [up_ne (by omega), e3]
  have e5 : up (up (up (up t 144 I a) 145 I b) 146 I c) 147 I d 121 17 = t 121 17 := by rw [up_ne (by omega), up_ne (by omega), up_ne (by omega), up_ne (by omega)]
  rw [e4, Int.toNat_natCast, gd_pos (by omega), e5]
  have e6 : up (up (up (up (up t 144 I a) 145 I b) 146 I c) 147 I d) 148 I (t 121 17 - 1) 121 33 = (I : Int) := by rw [up_ne (by omega), e4]
  rw [e6, up_same, show (I : Int) + 1 - 1 = (I : Int) by omega]
  rfl
section ADT
variable {t : iS} {I : Nat} {a b c d : Int}
theorem adt_ne {c' k : Nat} (h : c' < 144 ∨ 148 < c' ∨ k ≠ I) (h2 : ¬ (c' = 121 ∧ k = 33)) : adt t I a b c d c' k = t c' k := by
  unfold adt
  rw [up_ne h2, up_ne (by omega), up_ne (by omega), up_ne (by omega), up_ne (by omega), up_ne (by omega)]
theorem adt_33 : adt t I a b c d 121 33 = ((I + 1 : Nat) : Int) := up_same _ _ _ _
theorem adt_at : adt t I a b c d 144 I = a ∧ adt t I a b c d 145 I = b ∧ adt t I a b c d 146 I = c ∧ adt t I a b c d 147 I = d ∧ adt t I a b c d 148 I = t 121 17 - 1 := by
  unfold adt
  refine ⟨?_, ?_, ?_, ?_, ?_⟩
  · rw [up_ne (by omega), up_ne (by omega), up_ne (by omega), up_ne (by omega), up_ne (by omega), up_same]
  · rw [up_ne (by omega), up_ne (by omega), up_ne (by omega), up_ne (by omega), up_same]
  · rw [up_ne (by omega), up_ne (by omega), up_ne (by omega), up_same]
  · rw [up_ne (by omega), up_ne (by omega), up_same]
  · rw [up_ne (by omega), up_same]
end ADT
/-- how far the reference may have changed: below I items, C calls, K levels nothing -/
def PG (t t2 : iS) (I C K : Nat) : Prop := (∀ c k, (c ≠ 121 ∧ (c < 144 ∨ 159 < c ∨ (152 ≤ c ∧ c ≤ 155)) ∨ c = 121 ∧ k ≠ 10 ∧ k ≠ 11 ∧ k ≠ 12 ∧ k ≠ 33 ∧ k ≠ 39 ∧ k ≠ 48 ∧ k ≠ 49 ∧ k ≠ 51 ∧ k ≠ 61) → t2 c k = t c k) ∧ (∀ c k, 144 ≤ c → c ≤ 148 → k < I → t2 c k = t c k) ∧ (∀ c k, 149 ≤ c → c ≤ 156 → k < C → t2 c k = t c k) ∧ (∀ c k, 157 ≤ c → c ≤ 159 → k < K → t2 c k = t c k)
section PGs
variable {t t2 t3 : iS} {I C K I2 C2 K2 : Nat}
theorem PG_refl : PG t t I C K := ⟨fun _ _ _ => rfl, fun _ _ _ _ _ => rfl, fun _ _ _ _ _ => rfl, fun _ _ _ _ _ => rfl⟩
theorem PG_trans (h : PG t t2 I C K) (h' : PG t2 t3 I2 C2 K2) (hI : I ≤ I2) (hC : C ≤ C2) (hK : K ≤ K2) : PG t t3 I C K :=
  ⟨fun c k q => (h'.1 c k q).trans (h.1 c k q), fun c k q1 q2 q3 => (h'.2.1 c k q1 q2 (by omega)).trans (h.2.1 c k q1 q2 q3), fun c k q1 q2 q3 => (h'.2.2.1 c k q1 q2 (by omega)).trans (h.2.2.1 c k q1 q2 q3), fun c k q1 q2 q3 => (h'.2.2.2 c k q1 q2 (by omega)).trans (h.2.2.2 c k q1 q2 q3)⟩
theorem PG_mono (h : PG t t2 I2 C2 K2) (hI : I ≤ I2) (hC : C ≤ C2) (hK : K ≤ K2) : PG t t2 I C K := PG_trans PG_refl h hI hC hK
theorem PG_up {k : Nat} {x : Int} (hk : k = 10 ∨ k = 11 ∨ k = 12 ∨ k = 33 ∨ k = 39 ∨ k = 48 ∨ k = 49 ∨ k = 51 ∨ k = 61) : PG t (up t 121 k x) I C K :=
  ⟨fun c q h => up_ne (by omega), fun c q h1 h2 h3 => up_ne (by omega), fun c q h1 h2 h3 => up_ne (by omega), fun c q h1 h2 h3 => up_ne (by omega)⟩
theorem PG_upr {c k : Nat} {x : Int} (h : 144 ≤ c ∧ c ≤ 148 ∧ I ≤ k ∨ (c = 149 ∨ c = 150 ∨ c = 151 ∨ c = 156) ∧ C ≤ k ∨ 157 ≤ c ∧ c ≤ 159 ∧ K ≤ k) : PG t (up t c k x) I C K :=
  ⟨fun c' q h' => up_ne (by omega), fun c' q h1 h2 h3 => up_ne (by omega), fun c' q h1 h2 h3 => up_ne (by omega), fun c' q h1 h2 h3 => up_ne (by omega)⟩
theorem PG_adt {a b c d : Int} (h : I ≤ I2) : PG t (adt t I2 a b c d) I C K :=
  ⟨fun c' q h' => adt_ne (by omega) (by omega), fun c' q h1 h2 h3 => adt_ne (by omega) (by omega), fun c' q h1 h2 h3 => adt_ne (by omega) (by omega), fun c' q h1 h2 h3 => adt_ne (by omega) (by omega)⟩
theorem PG_c {c k : Nat} (h : PG t t2 I C K) (hc : c ≠ 121 ∧ (c < 144 ∨ 159 < c ∨ (152 ≤ c ∧ c ≤ 155)) ∨ c = 121 ∧ k ≠ 10 ∧ k ≠ 11 ∧ k ≠ 12 ∧ k ≠ 33 ∧ k ≠ 39 ∧ k ≠ 48 ∧ k ≠ 49 ∧ k ≠ 51 ∧ k ≠ 61) : t2 c k = t c k := h.1 c k hc
theorem PG_SR {t0 : iS} (h : PG t t2 I C K) (hr : SR t0 t) : SR t0 t2 := by
  unfold SR at hr ⊢
  rw [show t2 123 = t 123 from funext fun k => h.1 123 k (by omega), show t2 124 = t 124 from funext fun k => h.1 124 k (by omega), show t2 125 = t 125 from funext fun k => h.1 125 k (by omega), show t2 126 = t 126 from funext fun k => h.1 126 k (by omega), show t2 127 = t 127 from funext fun k => h.1 127 k (by omega), h.1 121 3 (by omega)]
  exact hr
end PGs
/-- item k is r: of the calls C .. C2 - 1 -/
def IM (t : iS) (k : Nat) (q : Int) (C C2 : Nat) (r : itm) : Prop := (t 148 k = q ∧ 0 ≤ t 147 k ∧ t 147 k < 2002) ∧ t 144 k = r.1 ∧ ((r.1 = 9 ∨ r.1 = 10) ∧ (∃ c : Nat, C ≤ c ∧ c < C2 ∧ t 145 k = (c : Int) ∧ t 149 c = r.2.1 ∧ t 150 c = r.2.2.1 ∧ t 156 c = q ∧ (r.1 = 10 → t 151 c = r.2.2.2)) ∨ r.1 ≠ 9 ∧ r.1 ≠ 10 ∧ (r.1 ≠ 15 → r.1 ≠ 16 → t 145 k = r.2.1) ∧ t 146 k = r.2.2.1 ∧ t 147 k = r.2.2.2)
def IMs (t : iS) (I : Nat) (q : Int) (C C2 : Nat) (l : List itm) : Prop := (∀ i, i < l.length → IM t (I + i) q C C2 (l.getD i (0, 0, 0, 0))) ∧ (∀ c : Nat, C ≤ c → c < C2 → ∃ i, i < l.length ∧ (l.getD i (0, 0, 0, 0)).1 = 10 ∧ t 145 (I + i) = (c : Int))
section IMS
variable {t t2 : iS} {I : Nat} {q : Int} {C C1 C2 : Nat} {l l2 : List itm}
theorem IM_of {k : Nat} {r : itm} {C' C2' : Nat} (h : IM t k q C C2 r) (h1 : ∀ c, 144 ≤ c → c ≤ 148 → t2 c k = t c k) (h2 : ∀ c j, 149 ≤ c → c ≤ 156 → C ≤ j → j < C2 → t2 c j = t c j) (hC : C' ≤ C) (hC2 : C2 ≤ C2') : IM t2 k q C' C2' r := by
  obtain ⟨a1, a2, a3⟩ := h
  refine ⟨by rw [h1 148 (by omega) (by omega), h1 147 (by omega) (by omega)]; exact a1, by rw [h1 144 (by omega) (by omega)]; exact a2, ?_⟩
  rcases a3 with ⟨b1, c, b2, b3, b4, b5, b6, b7, b8⟩ | ⟨b1, b2, b3, b4, b5⟩
  · refine Or.inl ⟨b1, c, by omega, by omega, by rw [h1 145 (by omega) (by omega)]; exact b4, by rw [h2 149 c (by omega) (by omega) b2 b3]; exact b5, by rw [h2 150 c (by omega) (by omega) b2 b3]; exact b6, by rw [h2 156 c (by omega) (by omega) b2 b3]; exact b7, fun g => by rw [h2 151 c (by omega) (by omega) b2 b3]; exact b8 g⟩
  · exact Or.inr ⟨b1, b2, fun g1 g2 => by rw [h1 145 (by omega) (by omega)]; exact b3 g1 g2, by rw [h1 146 (by omega) (by omega)]; exact b4, by rw [h1 147 (by omega) (by omega)]; exact b5⟩
theorem IMs_nil : IMs t I q C C [] := ⟨fun i hi => by simp at hi, fun c h1 h2 => by omega⟩
theorem gdL {α : Type} {l l2 : List α} {d : α} {i : Nat} (c : i < l.length) : (l ++ l2).getD i d = l.getD i d := by
  rw [List.getD_eq_getElem?_getD, List.getD_eq_getElem?_getD, List.getElem?_append_left c]
theorem gdR {α : Type} {l l2 : List α} {d : α} {i : Nat} (c : l.length ≤ i) : (l ++ l2).getD i d = l2.getD (i - l.length) d := by
  rw [List.getD_eq_getElem?_getD, List.getD_eq_getElem?_getD, List.getElem?_append_right c]
theorem IMs_app (h1 : IMs t I q C C1 l) (h2 : IMs t (I + l.length) q C1 C2 l2) (hC : C ≤ C1) (hC2 : C1 ≤ C2) : IMs t I q C C2 (l ++ l2) := by
  refine ⟨fun i hi => ?_, fun c z1 z2 => ?_⟩
  · rw [List.length_append] at hi
    by_cases c : i < l.length
    · rw [gdL c]
      exact IM_of (h1.1 i c) (fun _ _ _ => rfl) (fun _ _ _ _ _ _ => rfl) (Nat.le_refl _) hC2
    · rw [gdR (by omega)]
      have := h2.1 (i - l.length) (by omega)
      rw [show I + l.length + (i - l.length) = I + i by omega] at this
      exact IM_of this (fun _ _ _ => rfl) (fun _ _ _ _ _ _ => rfl) hC (Nat.le_refl _)
  · rw [List.length_append]
    by_cases c1 : c < C1
    · obtain ⟨i, a1, a2, a3⟩ := h1.2 c z1 c1
      exact ⟨i, by omega, by rw [gdL a1]; exact a2, a3⟩
    · obtain ⟨i, a1, a2, a3⟩ := h2.2 c (by omega) z2
      exact ⟨l.length + i, by omega, by rw [gdR (by omega), show l.length + i - l.length = i by omega]; exact a2, by rw [← Nat.add_assoc]; exact a3⟩
theorem IMs_pg {I2 C3 K : Nat} (h : IMs t I q C C2 l) (hp : PG t t2 I2 C3 K) (hI : I + l.length ≤ I2) (hC : C2 ≤ C3) : IMs t2 I q C C2 l := by
  refine ⟨fun i hi => ?_, fun c z1 z2 => ?_⟩
  · exact IM_of (h.1 i hi) (fun c h1 h2 => hp.2.1 c _ h1 h2 (by omega)) (fun c j h1 h2 h3 h4 => hp.2.2.1 c j h1 h2 (by omega)) (Nat.le_refl _) (Nat.le_refl _)
  · obtain ⟨i, a1, a2, a3⟩ := h.2 c z1 z2
    exact ⟨i, a1, a2, by rw [hp.2.1 145 _ (by omega) (by omega) (by omega)]; exact a3⟩
theorem IMs_one {a b c d : Int} (hq : t 121 17 = q + 1) (ha : a ≠ 9 ∧ a ≠ 10) (hd : 0 ≤ d ∧ d < 2002 := by omega) : IMs (adt t I a b c d) I q C C [(a, b, c, d)] := by
  refine ⟨fun i hi => ?_, fun c z1 z2 => by omega⟩
  have hi' : i = 0 := by simpa using hi
  subst hi'
  obtain ⟨e1, e2, e3, e4, e5⟩ := adt_at (t := t) (I := I) (a := a) (b := b) (c := c) (d := d)
  refine ⟨by rw [Nat.add_zero, e5, e4]; omega, by rw [Nat.add_zero, e1]; rfl, Or.inr ⟨ha.1, ha.2, fun _ _ => by rw [Nat.add_zero, e2]; rfl, by rw [Nat.add_zero, e3]; rfl, by rw [Nat.add_zero, e4]; rfl⟩⟩
end IMS
/-- both readers at the same token -/
def LV (s0 t0 : iS) (N : Nat) (q : Int) (s t : iS) (p o w I C : Nat) : Prop := SC s0 s ∧ SR t0 t ∧ s 2 12 = (p : Int) ∧ t 121 10 = (p : Int) ∧ p < N ∧ t 121 11 = 0 ∧ s 22 5 = (o : Int) ∧ t 121 48 = (o : Int) ∧ o ≤ 25 ∧ s 22 6 = (w : Int) ∧ t 121 49 = (w : Int) ∧ w ≤ 300 ∧ t 121 33 = (I : Int) ∧ t 121 39 = (C : Int) ∧ I ≤ 3 * p ∧ C + 5 ≤ p ∧ t 121 17 = q + 1
/-- bounds of the class's names -/
def SBo (s : iS) : Prop := (0 ≤ s 33 2 ∧ s 33 2 ≤ 48) ∧ (0 ≤ s 24 2 ∧ s 24 2 ≤ 20) ∧ (0 ≤ s 27 2 ∧ s 27 2 ≤ 100) ∧ (0 ≤ s 23 15 ∧ s 23 15 ≤ 48)
/-- the class behind a fault -/
def CD (s0 : iS) (N : Nat) (s : iS) (f : Int) (u : Nat) : Prop := SC s0 s ∧ s 2 12 = (N : Int) ∧ s 2 13 = f ∧ s 2 14 = (u : Int) ∧ s 22 4 = 0 ∧ s 14 7 = 0 ∧ SBo s
/-- the reference behind a fault -/
def RD (t0 : iS) (N : Nat) (P : Nat → Nat) (t : iS) (f : Int) (u M : Nat) : Prop := SR t0 t ∧ (∃ p, p < N ∧ t 121 10 = (p : Int)) ∧ t 121 11 = f ∧ t 121 12 = (P u : Int) ∧ (∃ I : Nat, t 121 33 = (I : Int) ∧ I ≤ M) ∧ (-(100 + (M : Int)) ≤ t 121 48 ∧ t 121 48 ≤ 100 + (M : Int))
abbrev ft (f : Int) (u N : Nat) : Prop := (f = 1 ∨ f = 2) ∧ u < N
abbrev MD (s s' : iS) : Prop := md [15, 16, 17, 18, 19] [(2, 13), (2, 14), (14, 8), (14, 12)] s s'
/-- what the class does beside reading: R of the items so far -/
def RHE (R : List itm → iS → Prop) (b : Int) (fv : Nat → Int) (s0 : iS) (N : Nat) : Prop :=
  (∀ l s x, R l s → R l (up s 2 12 x) ∧ R l (up s 22 5 x) ∧ R l (up s 22 6 x) ∧ R l (up s 22 7 x)) ∧
  (∀ l s, R l s → s 22 4 = b ∧ SBo s ∧ (b = 0 → s 2 13 = 0 ∧ s 14 7 = 0)) ∧
  (∀ l s v j, R l s → 0 ≤ v → v ≤ 32767 → ∃ s1, prg_add 0 0 v s = some (0, s1) ∧ R (l ++ [(0, v, 0, j)]) s1 ∧ MD s s1) ∧
  (∀ l s j, R l s → ∃ s1 s2, prg_add 0 0 0 s = some (0, s1) ∧ prg_add 7 0 0 s1 = some (0, s2) ∧ R (l ++ [(0, -1, 0, j)]) s2 ∧ MD s s2) ∧
  (∀ l s (j : Nat), R l s → SC s0 s → j < N → s0 9 j = 5 → s 2 12 = (j : Int) → ∃ s1 s2 s3 s4, prg_add 0 0 (s0 11 j) s = some (0, s1) ∧ prg_add 15 300 1 s1 = some (0, s2) ∧ prg_aim 12 s2 = some (0, s3) ∧ trl_readStringTerm_78 (s0 11 j) 1 s3 = some (0, up s4 2 12 ((j + 1 : Nat) : Int)) ∧ R (l ++ [(1, 0, 0, (j : Int))]) s4 ∧ MD s s4) ∧
  (∀ l s (j : Nat), R l s → SC s0 s → j < N → ∃ s1 s2, trl_askForThis (j : Int) s = some (0, s1) ∧ prg_add 0 6 0 s1 = some (0, s2) ∧ R (l ++ [(3, 0, 0, (j : Int))]) s2 ∧ MD s s2) ∧
  (∀ l s (j : Nat), R l s → SC s0 s → j < N → s0 9 j = 3 → trl_findVariable (j : Int) s = some (fv j, s) ∧ -1 ≤ fv j ∧ fv j < 48) ∧
  (∀ l s (j : Nat), R l s → SC s0 s → j < N → s0 9 j = 3 → ∃ s1 s2, trl_checkVariable (fv j) (j : Int) s = some (0, s1) ∧ trl_addVariable 0 (fv j) s1 = some (0, s2) ∧ R (l ++ [(4, 0, 0, (j : Int))]) s2 ∧ MD s s2) ∧
  (∀ l s j, R l s → ∃ s1 s2 s3, prg_add 2 0 0 s = some (0, s1) ∧ prg_add 1 6 1 s1 = some (0, s2) ∧ prg_add 0 5 0 s2 = some (0, s3) ∧ R (l ++ [(5, 0, 0, j)]) s3 ∧ MD s s3 ∧ MD s s1) ∧
  (∀ l s c j, R l s → c ∈ sO → ∃ s1, trl_addOperator c s = some (0, s1) ∧ R (l ++ [(6, c, 0, j)]) s1 ∧ MD s s1) ∧
  (∀ l s j, R l s → ∃ s1, prg_add 4 0 0 s = some (0, s1) ∧ R (l ++ [(7, 0, 0, j)]) s1 ∧ MD s s1) ∧
  (∀ l s j, R l s → ∃ s1, prg_add 7 0 0 s = some (0, s1) ∧ R (l ++ [(8, 0, 0, j)]) s1 ∧ MD s s1) ∧
  (∀ l s (j : Nat), R l s → SC s0 s → j < N → s0 9 j = 3 → ∃ s1 s2, trl_askForThis (j : Int) s = some (0, s1) ∧ prg_add 0 6 0 s1 = some (0, s2) ∧ R (l ++ [(9, -1, (j : Int), 0)]) s2 ∧ MD s s2) ∧
  (∀ l s (j : Nat), R l s → SC s0 s → j + 2 < N → s0 9 j = 3 → s0 9 (j + 2) = 3 → (fv j ≠ -1 → ∃ s1 s2, trl_checkVariable (fv j) (j : Int) s = some (0, s1) ∧ trl_addVariable 0 (fv j) s1 = some (0, s2) ∧ R (l ++ [(9, (j : Int), ((j + 2 : Nat) : Int), 0)]) s2 ∧ MD s s2) ∧ (fv j = -1 → R (l ++ [(9, (j : Int), ((j + 2 : Nat) : Int), 0)]) s)) ∧
  (∀ l s (j m : Nat) G, R l s → SC s0 s → j < N → s0 9 j = 3 → m ≤ 1000 → ∃ s1, trl_readCall_185 G (j : Int) 0 1 (m : Int) (s 23 11) s = some (0, s1) ∧ R (l ++ [(10, -1, (j : Int), (m : Int))]) s1 ∧ MD s s1) ∧
  (∀ l s (j m : Nat) G, R l s → SC s0 s → j + 2 < N → s0 9 j = 3 → s0 9 (j + 2) = 3 → m ≤ 1000 → ∃ s1, bd (trl_ownerOf (fv j) (j : Int) s) (fun r7 s7 => trl_readCall_185 G (j : Int) 1 (if fv j = -1 then 0 else 1) (m : Int) r7 s7) = some (0, s1) ∧ R (l ++ [(10, (j : Int), ((j + 2 : Nat) : Int), (m : Int))]) s1 ∧ MD s s1)
theorem MD_SC {s0 s s' : iS} (h : MD s s') (hs : SC s0 s) : SC s0 s' := SC_md rfl h hs
theorem MD_at {s s' : iS} (h : MD s s') {c k : Nat} (hc : c < 15 ∨ 19 < c) (hk : ¬ (c = 2 ∧ (k = 13 ∨ k = 14)) ∧ ¬ (c = 14 ∧ (k = 8 ∨ k = 12))) : s' c k = s c k := by
  refine h c k (fun q => ?_) (fun q => ?_)
  · simp only [List.mem_cons, List.not_mem_nil, or_false] at q
    omega
  · simp only [List.mem_cons, List.not_mem_nil, or_false, Prod.mk.injEq] at q
    omega
/-! a live pair goes on -/
section LVs
variable {s0 t0 s t : iS} {N : Nat} {q : Int} {p o w I C : Nat}
theorem SC_up {x : Int} {c k : Nat} (h : SC s0 s) (hc : c ≠ 1 ∧ ¬ (9 ≤ c ∧ c ≤ 13) ∧ ¬ (c = 2 ∧ (k = 8 ∨ k = 9)) ∧ c ≠ 42 ∧ c ≠ 43) : SC s0 (up s c k x) := by
  unfold SC at h ⊢
  rw [up_cell (by omega), up_cell (by omega), up_cell (by omega), up_cell (by omega), up_cell (by omega), up_cell (by omega), up_ne (by omega), up_ne (by omega), up_cell (by omega), up_cell (by omega)]
  exact h
theorem SR_up {x : Int} {c k : Nat} (h : SR t0 t) (hc : ¬ (123 ≤ c ∧ c ≤ 127) ∧ ¬ (c = 121 ∧ k = 3)) : SR t0 (up t c k x) := by
  unfold SR at h ⊢
  rw [up_cell (by omega), up_cell (by omega), up_cell (by omega), up_cell (by omega), up_cell (by omega), up_ne (by omega)]
  exact h
end LVs
