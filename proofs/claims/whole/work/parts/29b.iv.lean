/-! whole numbers: the pure machine over a heap of fixed shape whose numbers are Ints (a number stands for its int or long). What a piece of code does is a function into Option; Ew: what it tells, the machine does -/
abbrev iS : Type := Nat → Nat → Int
def up (s : iS) (c k : Nat) (x : Int) : iS := fun c' k' => if c' = c ∧ k' = k then x else s c' k'
def ih (s : iS) : hp_S := (fun c k => Int32.ofInt (s c k), fun c k => Int64.ofInt (s c k))
abbrev iv (x : Int) : Value := .int (Int32.ofInt x)
abbrev lv (x : Int) : Value := .long (Int64.ofInt x)
abbrev rg (x : Int) : Prop := -2147483648 ≤ x ∧ x < 2147483648
def gd {α : Type} (P : Prop) [Decidable P] (k : Option α) : Option α := if P then k else none
def lt' {α β : Type} (a : α) (f : α → β) : β := f a
def bd {α : Type} (o : Option (Int × iS)) (k : Int → iS → Option α) : Option α := o.bind (fun q => k q.1 q.2)
theorem gd_pos {α : Type} {P : Prop} [Decidable P] {k : Option α} (h : P) : gd P k = k := if_pos h
theorem bd_some {α : Type} (v : Int) (s : iS) (k : Int → iS → Option α) : bd (some (v, s)) k = k v s := rfl
theorem lt_eq {α β : Type} (a : α) (f : α → β) : lt' a f = f a := rfl
theorem up_at (s : iS) (c k : Nat) (x : Int) (c' k' : Nat) : up s c k x c' k' = if c' = c ∧ k' = k then x else s c' k' := rfl
theorem up_same (s : iS) (c k : Nat) (x : Int) : up s c k x c k = x := if_pos ⟨rfl, rfl⟩
/-! a loop: rounds until an end; none if there is no end -/
def lpn {L E : Type} (f : L → Option (L ⊕ E)) : Nat → L → Option E
  | 0, _ => none
  | n + 1, l => match f l with
    | none => none
    | some (.inl l') => lpn f n l'
    | some (.inr e) => some e
theorem lpn_mono {L E : Type} {f : L → Option (L ⊕ E)} : ∀ {n m : Nat} {l : L} {e : E}, n ≤ m → lpn f n l = some e → lpn f m l = some e
  | 0, _, _, _, _, h => by cases h
  | n + 1, 0, _, _, hm, _ => by omega
  | n + 1, m + 1, l, e, hm, h => by
    rw [lpn] at h ⊢
    cases hf : f l with
    | none => rw [hf] at h; cases h
    | some o =>
      rw [hf] at h
      cases o with
      | inl l' => exact lpn_mono (by omega) h
      | inr e' => exact h
noncomputable def lp {L E : Type} (f : L → Option (L ⊕ E)) (l : L) : Option E := @dite _ (∃ n e, lpn f n l = some e) (Classical.propDecidable _) (fun h => some h.choose_spec.choose) (fun _ => none)
theorem lp_some {L E : Type} {f : L → Option (L ⊕ E)} {l : L} {e : E} : lp f l = some e ↔ ∃ n, lpn f n l = some e := by
  unfold lp
  constructor
  · intro h
    split at h
    · rename_i hx
      cases h
      exact ⟨hx.choose, hx.choose_spec.choose_spec⟩
    · cases h
  · rintro ⟨n, hn⟩
    have hx : ∃ n e, lpn f n l = some e := ⟨n, e, hn⟩
    rw [dif_pos hx]
    have h2 := hx.choose_spec.choose_spec
    have e1 := lpn_mono (Nat.le_max_left n hx.choose) hn
    have e2 := lpn_mono (Nat.le_max_right n hx.choose) h2
    rw [e1] at e2
    cases e2
    rfl
theorem lp_eq {L E : Type} (f : L → Option (L ⊕ E)) (l : L) : lp f l = (f l).bind (fun o => o.elim (lp f) some) := by
  refine Option.ext fun e => ?_
  constructor
  · intro h
    obtain ⟨n, hn⟩ := lp_some.mp h
    cases n with
    | zero => cases hn
    | succ n =>
      rw [lpn] at hn
      cases hf : f l with
      | none => rw [hf] at hn; cases hn
      | some o =>
        rw [hf] at hn
        cases o with
        | inl l' => exact lp_some.mpr ⟨n, hn⟩
        | inr e' => exact hn
  · intro h
    cases hf : f l with
    | none => rw [hf] at h; cases h
    | some o =>
      rw [hf] at h
      cases o with
      | inl l' =>
        obtain ⟨n, hn⟩ := lp_some.mp (show lp f l' = some e from h)
        exact lp_some.mpr ⟨n + 1, by rw [lpn, hf]; exact hn⟩
      | inr e' => exact lp_some.mpr ⟨1, by rw [lpn, hf]; exact h⟩
theorem lp_next {L E : Type} {f : L → Option (L ⊕ E)} {l l' : L} (h : f l = some (.inl l')) : lp f l = lp f l' := by rw [lp_eq, h]; rfl
theorem lp_end {L E : Type} {f : L → Option (L ⊕ E)} {l : L} {e : E} (h : f l = some (.inr e)) : lp f l = some e := by rw [lp_eq, h]; rfl
/-! operations that are told by the machine's own -/
def i_and (x y : Int) : Int := (Int32.ofInt x &&& Int32.ofInt y).toInt
def i_or (x y : Int) : Int := (Int32.ofInt x ||| Int32.ofInt y).toInt
def i_xor (x y : Int) : Int := (Int32.ofInt x ^^^ Int32.ofInt y).toInt
def i_shl (x y : Int) : Int := (Int32.ofInt x <<< (Int32.ofInt y &&& 31)).toInt
def i_shr (x y : Int) : Int := (Int32.ofInt x >>> (Int32.ofInt y &&& 31)).toInt
def i_ushr (x y : Int) : Int := ((Int32.ofInt x).toUInt32 >>> ((Int32.ofInt y).toUInt32 &&& Int32.toUInt32 31)).toInt32.toInt
def i_s (x : Int) : Int := x.bmod 65536
def i_c (x : Int) : Int := ((Int32.ofInt x).toUInt32 % 65536).toInt32.toInt
def i_b (x : Int) : Int := (Int32.ofInt x).toInt8.toInt32.toInt
def l_shl (x y : Int) : Int := (Int64.ofInt x <<< ((Int32.ofInt y).toInt64 &&& 63)).toInt
def l_or (x y : Int) : Int := (Int64.ofInt x ||| Int64.ofInt y).toInt
def l_and (x y : Int) : Int := (Int64.ofInt x &&& Int64.ofInt y).toInt
def l_cmp (x y : Int) : Int := (lg_cmp (Int64.ofInt x) (Int64.ofInt y)).toInt
theorem r_ti {x : Int} (h : rg x) : (Int32.ofInt x).toInt = x := Int32.toInt_ofInt_of_le h.1 h.2
theorem r_lt {x y : Int} (h : rg x) (h' : rg y) : (Int32.ofInt x < Int32.ofInt y) ↔ x < y := by rw [Int32.lt_iff_toInt_lt, r_ti h, r_ti h']
theorem r_le {x y : Int} (h : rg x) (h' : rg y) : (Int32.ofInt x ≤ Int32.ofInt y) ↔ x ≤ y := by rw [Int32.le_iff_toInt_le, r_ti h, r_ti h']
theorem r_eq {x y : Int} (h : rg x) (h' : rg y) : (Int32.ofInt x = Int32.ofInt y) ↔ x = y := by
  constructor
  · intro e
    rw [← r_ti h, ← r_ti h', e]
  · intro e; rw [e]
theorem r_nat {i : Int} {n : Nat} (h : 0 ≤ i ∧ i < (n : Int)) (hn : n < 2147483648) : ¬ (Int32.ofInt i < 0 ∨ n ≤ (Int32.ofInt i).toNatClampNeg) ∧ (Int32.ofInt i).toNatClampNeg = i.toNat := by
  have e1 : rg i := ⟨by omega, by omega⟩
  have e2 : (Int32.ofInt i).toNatClampNeg = i.toNat := Int32.toNatClampNeg_ofInt_of_le e1.1 e1.2
  refine ⟨?_, e2⟩
  rw [e2]
  rintro (q | q)
  · have := (r_lt e1 (y := 0) ⟨by decide, by decide⟩).mp q
    omega
  · omega
theorem r_div {x y : Int} (h : rg x) (h' : rg y) : Int32.ofInt x / Int32.ofInt y = Int32.ofInt (x.tdiv y) := by
  rw [← Int32.toInt_inj, Int32.toInt_div, r_ti h, r_ti h', Int32.toInt_ofInt]
theorem r_s (x : Int) : (Int32.ofInt x).toInt16.toInt32 = Int32.ofInt (i_s x) := by
  rw [← Int32.toInt_inj, Int16.toInt_toInt32, Int32.toInt16_ofInt, Int16.toInt_ofInt]
  have h1 := Int.bmod_lt (x := x) (m := 65536) (by decide)
  have h2 := Int.le_bmod (x := x) (m := 65536) (by decide)
  rw [r_ti]
  · rfl
  · unfold i_s
    constructor <;> omega
/-! the heap -/
section HQ
variable {tp : List hp_T} {s : iS} {c k : Nat} {x : Int}
theorem hq_c {c' : Nat} (t : hp_T) (h : c' = c → ∀ n, t ≠ .inr (1, n)) : hp_c (hp_u (ih s) c k (Int32.ofInt x)) c' t = hp_c (ih (up s c k x)) c' t := by
  have e1 : (hp_u (ih s) c k (Int32.ofInt x)).1 c' = (ih (up s c k x)).1 c' := by
    funext k'
    simp only [hp_u, ih, up, upd]
    by_cases h1 : c' = c
    · subst h1
      by_cases h2 : k' = k <;> simp [h2, upd]
    · simp [h1]
  have e3 : ∀ (q q' : hp_S), q.1 c' = q'.1 c' → ∀ fs, hp_f q c' fs = hp_f q' c' fs := by
    intro q q' e fs
    unfold hp_f
    congr 1
    funext k f
    cases f with
    | some a => rfl
    | none => show Value.int (q.1 c' k) = .int (q'.1 c' k); rw [e]
  rcases t with ⟨ci, fs⟩ | ⟨tg, n⟩
  · show Sum.inr (ci, hp_f _ c' fs) = Sum.inr (ci, hp_f _ c' fs)
    rw [e3 _ _ e1]
  · show Sum.inl (tg, n, _) = Sum.inl (tg, n, _)
    by_cases ht : tg = 1
    · subst ht
      have hne : c' ≠ c := fun e => h e n rfl
      have e2 : (hp_u (ih s) c k (Int32.ofInt x)).2 c' = (ih (up s c k x)).2 c' := by
        funext k'
        simp [hp_u, ih, up, hne]
      rw [e2, e1]
    · rw [if_neg ht, if_neg ht, e1]
theorem hq_u (h : ∀ n, tp[c]? ≠ some (.inr (1, n))) : hp tp (hp_u (ih s) c k (Int32.ofInt x)) = hp tp (ih (up s c k x)) := by
  refine List.ext_getElem? fun i => ?_
  rw [hp, hp, List.getElem?_mapIdx, List.getElem?_mapIdx]
  cases ht : tp[i]? with
  | none => rfl
  | some t =>
    show some (hp_c _ i t) = some (hp_c _ i t)
    rw [hq_c]
    intro e n e2
    subst e
    subst e2
    exact h n ht
theorem hq_l {n : Nat} (h : tp[c]? = some (.inr (1, n))) : hp tp (hp_l (ih s) c k (Int64.ofInt x)) = hp tp (ih (up s c k x)) := by
  refine List.ext_getElem? fun i => ?_
  rw [hp, hp, List.getElem?_mapIdx, List.getElem?_mapIdx]
  cases ht : tp[i]? with
  | none => rfl
  | some t =>
    show some (hp_c _ i t) = some (hp_c _ i t)
    by_cases hi : i = c
    · subst hi
      rw [h] at ht
      cases ht
      show some (Sum.inl (1, n, _)) = some (Sum.inl (1, n, _))
      rw [if_pos rfl, if_pos rfl]
      have : (hp_l (ih s) i k (Int64.ofInt x)).2 i = (ih (up s i k x)).2 i := by
        funext k'
        simp only [hp_l, ih, up, vp_updL]
        by_cases h2 : k' = k <;> simp [h2, vp_updL]
      rw [this]
    · have e1 : (hp_l (ih s) c k (Int64.ofInt x)).1 i = (ih (up s c k x)).1 i := by funext k'; simp [hp_l, ih, up, hi]
      have e2 : (hp_l (ih s) c k (Int64.ofInt x)).2 i = (ih (up s c k x)).2 i := by funext k'; simp [hp_l, ih, up, hi]
      rcases t with ⟨ci, fs⟩ | ⟨tg, n⟩
      · have : hp_f (hp_l (ih s) c k (Int64.ofInt x)) i fs = hp_f (ih (up s c k x)) i fs := by
          unfold hp_f
          congr 1
          funext k f
          cases f with
          | some a => rfl
          | none => show Value.int (_) = .int (_); rw [e1]
        show some (Sum.inr (ci, hp_f _ i fs)) = some (Sum.inr (ci, hp_f _ i fs))
        rw [this]
      · show some (Sum.inl (tg, n, _)) = some (Sum.inl (tg, n, _))
        rw [e1, e2]
end HQ
