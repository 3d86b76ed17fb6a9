/-! which cells a function may change: of the cells L every place, and the places F -/
def md (L : List Nat) (F : List (Nat × Nat)) (s s' : iS) : Prop := ∀ c k, c ∉ L → (c, k) ∉ F → s' c k = s c k
def Fm {α : Type} (St : α → iS) (L : List Nat) (F : List (Nat × Nat)) (s : iS) (o : Option α) : Prop := ∀ q, o = some q → md L F s (St q)
section FM
variable {α β : Type} {St : α → iS} {L L' : List Nat} {F F' : List (Nat × Nat)} {s s' s'' : iS} {o : Option α} {c k : Nat} {x : Int}
theorem md_refl : md L F s s := fun _ _ _ _ => rfl
theorem md_trans (h : md L F s s') (h' : md L F s' s'') : md L F s s'' := fun c k h1 h2 => (h' c k h1 h2).trans (h c k h1 h2)
theorem md_sub (h : md L' F' s s') (hL : ∀ c ∈ L', c ∈ L) (hF : ∀ q ∈ F', q ∈ F ∨ q.1 ∈ L) : md L F s s' := fun c k h1 h2 => h c k (fun q => h1 (hL c q)) (fun q => (hF _ q).elim h2 h1)
theorem md_row (h : md L F s s') (hL : c ∉ L) (hF : c ∉ F.map Prod.fst) : s' c = s c := by
  funext k
  exact h c k hL (fun q => hF (List.mem_map_of_mem (f := Prod.fst) q))
theorem md_upL (hc : c ∈ L) : md L F s (up s c k x) := by
  intro c' k' h1 _
  rw [up_at, if_neg]
  rintro ⟨rfl, _⟩
  exact h1 hc
theorem md_upF (hc : (c, k) ∈ F) : md L F s (up s c k x) := fun c' k' _ h2 => if_neg (fun q => h2 (by rw [q.1, q.2]; exact hc))
theorem md_cpy {c0 c1 sp dp n : Nat} (hc : c1 ∈ L) : md L F s (cpy s c0 c1 sp dp n) := by
  intro c' k' h1 _
  unfold cpy
  rw [if_neg]
  rintro ⟨rfl, _⟩
  exact h1 hc
theorem fm_gd {P : Prop} [Decidable P] (h : Fm St L F s o) : Fm St L F s (gd P o) := by
  intro q e
  unfold gd at e
  split at e
  · exact h q e
  · cases e
theorem fm_if {P : Prop} [Decidable P] {A B : Option α} (h : Fm St L F s A) (h' : Fm St L F s B) : Fm St L F s (if P then A else B) := by
  split
  · exact h
  · exact h'
theorem fm_lt {f : iS → Option α} (hm : md L F s s') (h : ∀ t, Fm St L F t (f t)) : Fm St L F s (lt' s' f) := fun q e => md_trans hm (h s' q e)
theorem fm_bd {p : Option (Int × iS)} {f : Int → iS → Option α} (h : Fm Prod.snd L F s p) (h' : ∀ v s', Fm St L F s' (f v s')) : Fm St L F s (bd p f) := by
  intro q e
  unfold bd at e
  cases hp : p with
  | none => rw [hp] at e; cases e
  | some z =>
    rw [hp] at e
    exact md_trans (h z hp) (h' z.1 z.2 q e)
theorem fm_some {a : α} (h : md L F s (St a)) : Fm St L F s (some a) := by
  intro q e
  cases e
  exact h
theorem fm_none : Fm St L F s (none : Option α) := fun q e => by cases e
theorem fm_sub (h : Fm St L' F' s o) (hL : ∀ c ∈ L', c ∈ L) (hF : ∀ q ∈ F', q ∈ F ∨ q.1 ∈ L) : Fm St L F s o := fun q e => md_sub (h q e) hL hF
theorem fm_lp {A E : Type} {f : A → Option (A ⊕ E)} {g : E → Option α} {LS : A → iS} {LE : E → iS} (hb : ∀ l, Fm (fun r : A ⊕ E => r.elim LS LE) L F (LS l) (f l)) (hk : ∀ e, Fm St L F (LE e) (g e)) (l : A) : Fm St L F (LS l) ((lp f l).bind g) := by
  intro q h1
  cases hl : lp f l with
  | none => rw [hl] at h1; cases h1
  | some e =>
    rw [hl] at h1
    have h3 := hk e q h1
    obtain ⟨n, hn⟩ := lp_some.mp hl
    clear hl
    refine md_trans ?_ h3
    induction n generalizing l with
    | zero => cases hn
    | succ n ihn =>
      rw [lpn] at hn
      cases hf : f l with
      | none => rw [hf] at hn; cases hn
      | some o =>
        rw [hf] at hn
        have h2 := hb l o hf
        cases o with
        | inl l' => exact md_trans h2 (ihn l' hn)
        | inr e' => cases hn; exact h2
theorem fm_elim {E1 E2 : Type} {LE1 : E1 → iS} {LE2 : E2 → iS} {g1 : E1 → Option α} {g2 : E2 → Option α} (h1 : ∀ e, Fm St L F (LE1 e) (g1 e)) (h2 : ∀ e, Fm St L F (LE2 e) (g2 e)) (e : E1 ⊕ E2) : Fm St L F (e.elim LE1 LE2) (e.elim g1 g2) := by
  cases e with
  | inl e => exact h1 e
  | inr e => exact h2 e
theorem mem_sub_F {L : List Nat} {F F' : List (Nat × Nat)} (h : F'.all (fun q => F.contains q || L.contains q.1) = true) : ∀ q ∈ F', q ∈ F ∨ q.1 ∈ L := by
  intro q hq
  have := List.all_eq_true.mp h q hq
  simpa [Bool.or_eq_true] using this
theorem mem_sub_L {L L' : List Nat} (h : L'.all (fun q => L.contains q) = true) : ∀ q ∈ L', q ∈ L := by
  intro q hq
  have := List.all_eq_true.mp h q hq
  simpa using this
theorem mem_L {L : List Nat} {c : Nat} (h : L.contains c = true) : c ∈ L := by simpa using h
theorem mem_F {F : List (Nat × Nat)} {q : Nat × Nat} (h : F.contains q = true) : q ∈ F := by simpa using h
end FM
theorem e_none {H : iS → List am_C} {w : ev_W} {d j pc : Nat} {lo : am_L} {st : List Value} {s : iS} {α : Type} {C : α → am_E → Prop} : Ew H w d j pc lo st s C none := fun _ _ h => by cases h
section RT2
variable {H : iS → List am_C} {w : ev_W} {d j pc nL : Nat} {lo : am_L} {s : iS} {x : Int}
theorem e_retb (hm : ev_M j nL (some .byte)) (hc : tb_co j pc = some (.ireturn, 0, 0, 0)) (hx : -128 ≤ x ∧ x < 128) : Ew H w d j pc lo [iv x] s (Ci H) (some (x, s)) := by
  intro q r h1 h2
  cases h1
  cases h2
  refine ev_rt hm hc ?_
  simp only [am_rt]
  rw [if_pos]
  rw [← Int32.toInt_inj, Int8.toInt_toInt32, Int32.toInt8_ofInt, Int8.toInt_ofInt_of_le (by omega) (by omega), r_ti ⟨by omega, by omega⟩]
theorem e_retc (hm : ev_M j nL (some .char)) (hc : tb_co j pc = some (.ireturn, 0, 0, 0)) (hx : 0 ≤ x ∧ x < 65536) : Ew H w d j pc lo [iv x] s (Ci H) (some (x, s)) := by
  intro q r h1 h2
  cases h1
  cases h2
  refine ev_rt hm hc ?_
  simp only [am_rt]
  rw [if_pos]
  have h3 : (Int32.ofInt x).toUInt32.toNat < 65536 := by
    show (Int32.ofInt x).toBitVec.toNat < 65536
    rw [Int32.toBitVec_ofInt, BitVec.toNat_ofInt]
    omega
  have h4 : (Int32.ofInt x).toUInt32.toUInt16.toUInt32 = (Int32.ofInt x).toUInt32 := by
    rw [← UInt32.toNat_inj, UInt16.toNat_toUInt32, UInt32.toNat_toUInt16]
    omega
  show (Int32.ofInt x).toUInt32.toUInt16.toUInt32.toInt32 = Int32.ofInt x
  rw [h4]
  rfl
end RT2
