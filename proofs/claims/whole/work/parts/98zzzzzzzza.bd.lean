/-! chips: what the reference builds: places, new bits, new parts -/
section CKw
variable (p : Nat → Nat → Nat) (ph : Nat → Nat → Nat)
def STr (t0 t : iS) : Prop := ∀ c k, c < 222 → ¬ (c = 121 ∧ 158 ≤ k) → t c k = t0 c k
def HCn (t0 : iS) : Prop := ∀ t, STr t0 t → ∀ c k l b q : Nat, c < p 10 0 → k < npC p c → p 2 (p 0 c + k) ≤ l → l < p 3 (p 0 c + k) → b + p 4 (2 + c) ≤ 40000 → q + p 4 (p 1 (p 0 c + k)) ≤ 40000 → ∃ t', m_connect (c : Int) (b : Int) ((p 1 (p 0 c + k) : Nat) : Int) (q : Int) (l : Int) t = some (0, t') ∧ (∀ c' x, c' ≠ 222 → t' c' x = t c' x) ∧ (p 8 l = 0 → ∀ x, t' 222 x = if q + p 7 l ≤ x ∧ x < q + p 7 l + p 6 l then (if p 9 l < 2 then (p 9 l : Int) - 2 else ((b + ph c (p 9 l - 2) + (x - (q + p 7 l)) : Nat) : Int)) else t 222 x) ∧ (p 8 l = 1 → ∀ x, t' 222 x = if b + ph c (p 9 l - 2) ≤ x ∧ x < b + ph c (p 9 l - 2) + p 6 l then ((q + p 7 l + (x - (b + ph c (p 9 l - 2))) : Nat) : Int) else t 222 x)
def HOw (t0 : iS) : Prop := ∀ t, STr t0 t → ∀ c, c < p 10 0 → m_ownBits (c : Int) t = some ((p 4 (2 + c) : Int), t)
def PLR (t0 : iS) : Prop := (∀ c, c ≤ p 10 0 → t0 201 c = (p 0 c : Int)) ∧ ∀ c r, c < p 10 0 → p 0 c ≤ r → r < p 0 (c + 1) → t0 216 r = (p 1 r : Int) ∧ t0 203 r = (p 2 r : Int) ∧ t0 203 (r + 1) = (p 3 r : Int)
def PHw : Prop := ∀ c, c < p 10 0 → (∀ j, j < p 4 (2 + c) → ph c j < p 4 (2 + c)) ∧ (∀ i j, i < p 4 (2 + c) → j < p 4 (2 + c) → ph c i = ph c j → i = j) ∧ (∀ j, j < p 14 (2 + c) → ph c j = j) ∧ ∀ k l, k < npC p c → p 2 (p 0 c + k) ≤ l → l < p 3 (p 0 c + k) → 2 ≤ p 9 l → ∀ x, x < p 6 l → ph c (p 9 l - 2 + x) = ph c (p 9 l - 2) + x
/-- the reference's places: bits, gates, those that wait; sums from the end -/
def rbk (c u k : Nat) : Nat := u + sW (fun r => p 4 (p 1 r)) (p 0 c) k
def rgk (c g k : Nat) : Nat := g + sW (fun r => if p 1 r < 2 then 1 else 0) (p 0 c) k
def rnk (c k : Nat) : Nat := sW (fun r => if p 1 r < 2 then 0 else 1) (p 0 c) k
def rsb (c k : Nat) : Nat := sW (fun r => p 11 (p 1 r)) (p 0 c + k) (npC p c - k)
def rsg (c k : Nat) : Nat := sW (fun r => if p 1 r < 2 then 0 else p 12 (p 1 r)) (p 0 c + k) (npC p c - k)
def rIW (c b : Nat) (v : Int) : Int := if v < 0 then v else ((b + ph c v.toNat : Nat) : Int)
def rOW (c u : Nat) : Option (Nat × Nat) → Int
  | none => -1
  | some (k, i) => ((rbk p c u k + i : Nat) : Int)
/-- a gate in the reference -/
def GTr (i q g : Nat) (t : iS) : Prop := t 224 g = (if i = 1 then 1 else 0) ∧ t 225 g = (q : Int) ∧ (∀ j, j < p 5 i → t 223 (q + j) = 0) ∧ t 223 (q + p 5 i) = (g : Int) + 1
def WRt : Nat → Nat → Nat → Nat → Nat → iS → Prop
  | 0, _, _, _, _, _ => False
  | f + 1, c, b, u, g, t => (∀ j, p 5 (2 + c) ≤ j → j < p 4 (2 + c) → t 222 (b + ph c j) = rOW p c u (OWp p c (npC p c) j)) ∧ (∀ j, j < p 4 (2 + c) → t 223 (b + j) = 0) ∧ ∀ k, k < npC p c → (∀ j, j < p 5 (p 1 (p 0 c + k)) → t 222 (rbk p c u k + j) = rIW ph c b (IWa p (p 0 c + k) j)) ∧ (p 1 (p 0 c + k) < 2 → GTr p (p 1 (p 0 c + k)) (rbk p c u k) (rgk p c g k) t) ∧ (2 ≤ p 1 (p 0 c + k) → WRt f (p 1 (p 0 c + k) - 2) (rbk p c u k) (rbk p c u (npC p c) + rsb p c (k + 1)) (rgk p c g (npC p c) + rsg p c (k + 1)) t)
end CKw
section CKx
variable {p : Nat → Nat → Nat} {ph : Nat → Nat → Nat} {t t' t0 : iS}
theorem sW_front {f : Nat → Nat} {a : Nat} : ∀ m, sW f a (m + 1) = f a + sW f (a + 1) m
  | 0 => by show 0 + f (a + 0) = f a + 0; rw [Nat.add_zero]; omega
  | m + 1 => by
    rw [sW_s, sW_front m, sW_s, show a + (m + 1) = a + 1 + m by omega]
    omega
theorem sW_add {f g h : Nat → Nat} {a : Nat} : ∀ m, (∀ i, i < m → f (a + i) + g (a + i) = h (a + i)) → sW f a m + sW g a m = sW h a m
  | 0, _ => rfl
  | m + 1, e => by
    have := sW_add m (fun i hi => e i (by omega))
    have := e m (by omega)
    rw [sW_s, sW_s, sW_s]
    omega
theorem sW_lem {f g : Nat → Nat} {a : Nat} : ∀ m, (∀ i, i < m → f (a + i) ≤ g (a + i)) → sW f a m ≤ sW g a m
  | 0, _ => Nat.le_refl _
  | m + 1, e => by
    have := sW_lem m (fun i hi => e i (by omega))
    have := e m (by omega)
    rw [sW_s, sW_s]
    omega
theorem rbk_s {c u k : Nat} : rbk p c u (k + 1) = rbk p c u k + p 4 (p 1 (p 0 c + k)) := by
  unfold rbk; rw [sW_s]; omega
theorem rgk_s {c g k : Nat} : rgk p c g (k + 1) = rgk p c g k + (if p 1 (p 0 c + k) < 2 then 1 else 0) := by
  unfold rgk; rw [sW_s]; omega
theorem rnk_s {c k : Nat} : rnk p c (k + 1) = rnk p c k + (if p 1 (p 0 c + k) < 2 then 0 else 1) := rfl
theorem rbk_m {c u k k' : Nat} (h : k ≤ k') : rbk p c u k ≤ rbk p c u k' := by
  unfold rbk
  have := sW_mono (f := fun r => p 4 (p 1 r)) (a := p 0 c) (k' - k) k
  rw [show k + (k' - k) = k' by omega] at this
  omega
theorem rgk_m {c g k k' : Nat} (h : k ≤ k') : rgk p c g k ≤ rgk p c g k' := by
  unfold rgk
  have := sW_mono (f := fun r => if p 1 r < 2 then 1 else 0) (a := p 0 c) (k' - k) k
  rw [show k + (k' - k) = k' by omega] at this
  omega
theorem rnk_m {c k k' : Nat} (h : k ≤ k') : rnk p c k ≤ rnk p c k' := by
  unfold rnk
  have := sW_mono (f := fun r => if p 1 r < 2 then 0 else 1) (a := p 0 c) (k' - k) k
  rw [show k + (k' - k) = k' by omega] at this
  omega
theorem rsb_s {c k : Nat} (hk : k < npC p c) : rsb p c k = p 11 (p 1 (p 0 c + k)) + rsb p c (k + 1) := by
  unfold rsb
  rw [show npC p c - k = (npC p c - (k + 1)) + 1 by omega, sW_front]
  rfl
theorem rsg_s {c k : Nat} (hk : k < npC p c) : rsg p c k = (if p 1 (p 0 c + k) < 2 then 0 else p 12 (p 1 (p 0 c + k))) + rsg p c (k + 1) := by
  unfold rsg
  rw [show npC p c - k = (npC p c - (k + 1)) + 1 by omega, sW_front]
  rfl
theorem rsb_e {c : Nat} : rsb p c (npC p c) = 0 := by unfold rsb; rw [Nat.sub_self]; rfl
theorem rsg_e {c : Nat} : rsg p c (npC p c) = 0 := by unfold rsg; rw [Nat.sub_self]; rfl
theorem rsb_m {c : Nat} : ∀ {d k : Nat}, k + d ≤ npC p c → rsb p c (k + d) ≤ rsb p c k
  | 0, _, _ => Nat.le_refl _
  | d + 1, k, h => by
    have a : rsb p c (k + d) ≤ rsb p c k := rsb_m (by omega)
    have b := rsb_s (p := p) (c := c) (k := k + d) (by omega)
    rw [show k + (d + 1) = k + d + 1 by omega]
    omega
theorem rsg_m {c : Nat} : ∀ {d k : Nat}, k + d ≤ npC p c → rsg p c (k + d) ≤ rsg p c k
  | 0, _, _ => Nat.le_refl _
  | d + 1, k, h => by
    have a : rsg p c (k + d) ≤ rsg p c k := rsg_m (by omega)
    have b := rsg_s (p := p) (c := c) (k := k + d) (by omega)
    rw [show k + (d + 1) = k + d + 1 by omega]
    omega
theorem rb_tot (h : WFp p) {c u : Nat} (hc : c < p 10 0) : rbk p c u (npC p c) + rsb p c 0 = u + p 11 (2 + c) := by
  rw [(h.2.1 c hc).2.2.2.2.1]
  unfold rbk rsb
  have := sW_add (f := fun r => p 4 (p 1 r)) (g := fun r => p 11 (p 1 r)) (h := fun r => p 4 (p 1 r) + p 11 (p 1 r)) (a := p 0 c) (npC p c) (fun _ _ => rfl)
  rw [Nat.add_zero, Nat.sub_zero]
  omega
theorem rg_tot (h : WFp p) {c g : Nat} (hc : c < p 10 0) : rgk p c g (npC p c) + rsg p c 0 = g + p 12 (2 + c) := by
  rw [(h.2.1 c hc).2.2.2.2.2]
  unfold rgk rsg
  have := sW_add (f := fun r => if p 1 r < 2 then 1 else 0) (g := fun r => if p 1 r < 2 then 0 else p 12 (p 1 r)) (h := fun r => p 12 (p 1 r)) (a := p 0 c) (npC p c) (fun i hi => by
    show (if p 1 (p 0 c + i) < 2 then 1 else 0) + (if p 1 (p 0 c + i) < 2 then 0 else p 12 (p 1 (p 0 c + i))) = p 12 (p 1 (p 0 c + i))
    by_cases c : p 1 (p 0 c + i) < 2
    · rw [if_pos c, if_pos c, (WFg h c).2.1]
    · rw [if_neg c, if_neg c]; omega)
  rw [Nat.add_zero, Nat.sub_zero]
  omega
theorem rn_le (h : WFp p) {c u k : Nat} (hc : c < p 10 0) (hk : k ≤ npC p c) : u + 2 * rnk p c k ≤ rbk p c u k := by
  have go : ∀ k, k ≤ npC p c → 2 * rnk p c k ≤ sW (fun r => p 4 (p 1 r)) (p 0 c) k := by
    intro k
    induction k with
    | zero => intro _; exact Nat.le_refl _
    | succ k ih =>
      intro hk
      have a := ih (by omega)
      have b := (h.2.2.2.2 _ (WF_r h hc (show k < npC p c by omega)).2.1).2.2
      rw [rnk_s, sW_s]
      split <;> omega
  have := go k hk
  unfold rbk
  omega
theorem ph_in (hp : PHw p ph) (h : WFp p) {c j : Nat} (hc : c < p 10 0) (h1 : p 5 (2 + c) ≤ j) (h2 : j < p 4 (2 + c)) : p 5 (2 + c) ≤ ph c j ∧ ph c j < p 4 (2 + c) := by
  obtain ⟨a1, a2, a3, -⟩ := hp c hc
  have fi := h.2.2.2.2 (2 + c) (by omega)
  have l := a1 j h2
  refine ⟨?_, l⟩
  by_cases q : p 5 (2 + c) ≤ ph c j
  · exact q
  · have := a3 (ph c j) (by omega)
    have := a2 (ph c j) j l h2 this
    omega
theorem STr_of {t1 : iS} (h : STr t0 t) (hs : ∀ c k, c < 222 → ¬ (c = 121 ∧ 158 ≤ k) → t1 c k = t c k) : STr t0 t1 := fun c k k1 k2 => by rw [hs c k k1 k2]; exact h c k k1 k2
theorem r_nb {u n : Nat} (h : t 121 158 = (u : Int)) (hu : u + n ≤ 40000) : ∃ t', m_newBits (n : Int) t = some ((u : Int), t') ∧ t' 121 158 = ((u + n : Nat) : Int) ∧ (∀ x, u ≤ x → x < u + n → t' 222 x = -1 ∧ t' 223 x = 0) ∧ (∀ x, ¬ (u ≤ x ∧ x < u + n) → t' 222 x = t 222 x ∧ t' 223 x = t 223 x) ∧ ∀ c k, c ≠ 222 → c ≠ 223 → ¬ (c = 121 ∧ k = 158) → t' c k = t c k := by
  have L := lpG (f := fun l : Int × iS => m_newBits_2b (n : Int) (l.1) (l.2)) (M := n) (I := fun i l => l.1 = (i : Int) ∧ (∀ x, u ≤ x → x < u + i → l.2 222 x = -1 ∧ l.2 223 x = 0) ∧ (∀ x, ¬ (u ≤ x ∧ x < u + i) → l.2 222 x = t 222 x ∧ l.2 223 x = t 223 x) ∧ ∀ c k, c ≠ 222 → c ≠ 223 → l.2 c k = t c k) (J := fun e => (∀ x, u ≤ x → x < u + n → e 222 x = -1 ∧ e 223 x = 0) ∧ (∀ x, ¬ (u ≤ x ∧ x < u + n) → e 222 x = t 222 x ∧ e 223 x = t 223 x) ∧ ∀ c k, c ≠ 222 → c ≠ 223 → e c k = t c k) (by
    rintro i ⟨v, s⟩ hi ⟨e, e1, e2, e3⟩
    have e' : v = (i : Int) := e
    subst e'
    have e1' : ∀ x, u ≤ x → x < u + i → s 222 x = -1 ∧ s 223 x = 0 := e1
    have e2' : ∀ x, ¬ (u ≤ x ∧ x < u + i) → s 222 x = t 222 x ∧ s 223 x = t 223 x := e2
    have e3' : ∀ c k, c ≠ 222 → c ≠ 223 → s c k = t c k := e3
    have z : s 121 158 = (u : Int) := by rw [e3' 121 158 (by omega) (by omega)]; exact h
    refine ⟨((i : Int) + 1, up (up s 222 (u + i) (-1)) 223 (u + i) 0), ?_, by show (i : Int) + 1 = ((i + 1 : Nat) : Int); omega, ?_, ?_, ?_⟩
    · show m_newBits_2b (n : Int) (i : Int) s = _
      unfold m_newBits_2b
      rw [gr (by omega), gr (by omega), if_neg (by omega), z, gd_pos (by omega), show ((u : Int) + (i : Int)).toNat = u + i by omega, lt_eq, show up s 222 (u + i) (-1) 121 158 = (u : Int) by rw [up_ne (by omega)]; exact z, gd_pos (by omega), show ((u : Int) + (i : Int)).toNat = u + i by omega, lt_eq]
    · intro x x1 x2
      show up (up s 222 (u + i) (-1)) 223 (u + i) 0 222 x = -1 ∧ up (up s 222 (u + i) (-1)) 223 (u + i) 0 223 x = 0
      rw [up_ne (by omega)]
      by_cases q : x = u + i
      · rw [q, up_same, up_same]; exact ⟨rfl, rfl⟩
      · rw [up_ne (by omega), up_ne (by omega), up_ne (by omega)]
        exact e1' x x1 (by omega)
    · intro x x1
      show up (up s 222 (u + i) (-1)) 223 (u + i) 0 222 x = _ ∧ up (up s 222 (u + i) (-1)) 223 (u + i) 0 223 x = _
      rw [up_ne (by omega), up_ne (by omega), up_ne (by omega), up_ne (by omega)]
      exact e2' x (by omega)
    · intro c k c1 c2
      show up (up s 222 (u + i) (-1)) 223 (u + i) 0 c k = _
      rw [up_ne (by omega), up_ne (by omega)]
      exact e3' c k c1 c2) (by
    rintro ⟨v, s⟩ ⟨e, e1, e2, e3⟩
    have e' : v = (n : Int) := e
    subst e'
    refine ⟨s, ?_, e1, e2, e3⟩
    show m_newBits_2b (n : Int) (n : Int) s = _
    unfold m_newBits_2b
    rw [gr (by omega), gr (by omega), if_pos (by omega)]) n 0 ((0 : Int), t) (by omega) ⟨rfl, fun x x1 x2 => by omega, fun _ _ => ⟨rfl, rfl⟩, fun _ _ _ _ => rfl⟩
  obtain ⟨s, l1, l2, l3, l4⟩ := L
  have z : s 121 158 = (u : Int) := by rw [l4 121 158 (by omega) (by omega)]; exact h
  refine ⟨up s 121 158 ((u : Int) + n), ?_, by rw [up_same]; rfl, fun x x1 x2 => by rw [up_ne (by omega), up_ne (by omega)]; exact l2 x x1 x2, fun x x1 => by rw [up_ne (by omega), up_ne (by omega)]; exact l3 x x1, fun c k c1 c2 c3 => by rw [up_ne c3]; exact l4 c k c1 c2⟩
  unfold m_newBits m_newBits_2
  rw [show lp (L := Int × iS) (E := iS) (fun l => m_newBits_2b (n : Int) (l.1) (l.2)) (0, t) = some s from l1, bn]
  unfold m_newBits_37
  rw [z, lt_eq, up_same, show (u : Int) + n - n = u by omega]
/-- a new gate -/
theorem r_gate' (h : WFp p) {i u g : Nat} (hi : i < 2) (h158 : t 121 158 = (u : Int)) (h161 : t 121 161 = (g : Int)) (hu : u + p 4 i ≤ 40000) (hg : g < 1500) : ∃ t', m_newPart (i : Int) t = some ((u : Int), t') ∧ t' 121 158 = ((u + p 4 i : Nat) : Int) ∧ t' 121 161 = ((g + 1 : Nat) : Int) ∧ GTr p i u g t' ∧ (∀ x, u ≤ x → x < u + p 4 i → t' 222 x = -1) ∧ (∀ x, ¬ (u ≤ x ∧ x < u + p 4 i) → t' 222 x = t 222 x ∧ t' 223 x = t 223 x) ∧ (∀ x, x ≠ g → t' 224 x = t 224 x ∧ t' 225 x = t 225 x) ∧ ∀ c k, ¬ (222 ≤ c ∧ c ≤ 225) → ¬ (c = 121 ∧ (k = 158 ∨ k = 161)) → t' c k = t c k := by
  obtain ⟨z1, z2, z3⟩ := WFg h hi
  obtain ⟨t1, a1, a2, a3, a4, a5⟩ := r_nb (n := p 4 i) h158 hu
  have g1 : t1 121 161 = (g : Int) := by rw [a5 121 161 (by omega) (by omega) (by omega)]; exact h161
  obtain ⟨w, hw⟩ : ∃ w : Int, w = if i = 1 then 1 else 0 := ⟨_, rfl⟩
  have w01 : w = 0 ∨ w = 1 := by rw [hw]; split <;> simp
  obtain ⟨t2, ht2⟩ : ∃ t2, t2 = up (up (up t1 224 g w) 225 g (u : Int)) 121 161 ((g : Int) + 1) := ⟨_, rfl⟩
  have n2 : ∀ c k, c ≠ 224 → c ≠ 225 → ¬ (c = 121 ∧ k = 161) → t2 c k = t1 c k := fun c k c1 c2 c3 => by rw [ht2, up_ne (by omega), up_ne (by omega), up_ne (by omega)]
  have e61 : t2 121 161 = (g : Int) + 1 := by rw [ht2, up_same]
  obtain ⟨D, hD⟩ : ∃ D, D = u + p 5 i := ⟨_, rfl⟩
  have f83 : m_newPart_83 (i : Int) (u : Int) w (g : Int) t1 = some ((u : Int), up t2 223 D ((g : Int) + 1)) := by
    unfold m_newPart_83
    rw [gd_pos (by omega), gd_pos w01, Int.toNat_natCast, lt_eq, show up t1 224 g w 121 161 = (g : Int) by rw [up_ne (by omega)]; exact g1, gd_pos (by omega), Int.toNat_natCast, lt_eq, show up (up t1 224 g w) 225 g (u : Int) 121 161 = (g : Int) by rw [up_ne (by omega), up_ne (by omega)]; exact g1, lt_eq, ← ht2, gr (by omega)]
    have f118 : ∀ d : Int, d = (p 5 i : Int) → m_newPart_118 (u : Int) d (u : Int) t2 = some ((u : Int), up t2 223 D ((g : Int) + 1)) := by
      intro d hd
      unfold m_newPart_118
      rw [hd, gd_pos (by rcases z3 with ⟨y1, y2, y3⟩ | ⟨y1, y2, y3⟩ <;> omega), e61, lt_eq, show ((u : Int) + (p 5 i : Int)).toNat = D by omega]
    rcases z3 with ⟨y1, y2, y3⟩ | ⟨y1, y2, y3⟩
    · rw [if_pos (by omega)]
      exact f118 2 (by omega)
    · rw [if_neg (by omega)]
      exact f118 1 (by omega)
  have f61 : ∀ m : Int, m = (p 4 i : Int) → m_newPart_61 (i : Int) m t = some ((u : Int), up t2 223 D ((g : Int) + 1)) := by
    intro m hm
    unfold m_newPart_61
    rw [hm, a1, bq, gr (by omega), g1]
    by_cases c : i = 1
    · rw [if_pos (by omega), ← f83, hw, if_pos c]
    · rw [if_neg (by omega), ← f83, hw, if_neg c]
  refine ⟨up t2 223 D ((g : Int) + 1), ?_, ?_, ?_, ⟨?_, ?_, ?_, ?_⟩, ?_, ?_, ?_, ?_⟩
  · unfold m_newPart
    rw [gr (by omega), if_pos (by omega)]
    rcases z3 with ⟨y1, y2, y3⟩ | ⟨y1, y2, y3⟩
    · rw [if_pos (by omega)]
      exact f61 3 (by omega)
    · rw [if_neg (by omega)]
      exact f61 2 (by omega)
  · rw [up_ne (by omega), n2 121 158 (by omega) (by omega) (by omega)]; exact a2
  · rw [up_ne (by omega), e61]; rfl
  · rw [up_ne (by omega), ht2, up_ne (by omega), up_ne (by omega), up_same, hw]
  · rw [up_ne (by omega), ht2, up_ne (by omega), up_same]
  · intro j hj
    rw [up_ne (by omega), n2 223 _ (by omega) (by omega) (by omega)]
    exact (a3 _ (by omega) (by rcases z3 with ⟨y1, y2, y3⟩ | ⟨y1, y2, y3⟩ <;> omega)).2
  · rw [← hD, up_same]
  · intro x x1 x2
    rw [up_ne (by omega), n2 222 _ (by omega) (by omega) (by omega)]
    exact (a3 x x1 x2).1
  · intro x x1
    rw [up_ne (by omega), up_ne (by rcases z3 with ⟨y1, y2, y3⟩ | ⟨y1, y2, y3⟩ <;> omega), n2 222 _ (by omega) (by omega) (by omega), n2 223 _ (by omega) (by omega) (by omega)]
    exact a4 x x1
  · intro x x1
    rw [up_ne (by omega), up_ne (by omega), ht2, up_ne (by omega), up_ne (by omega), up_ne (by omega), up_ne (by omega), up_ne (by omega), up_ne (by omega)]
    exact ⟨a5 224 x (by omega) (by omega) (by omega), a5 225 x (by omega) (by omega) (by omega)⟩
  · intro c k c1 c2
    rw [up_ne (by omega), n2 c k (by omega) (by omega) (by omega)]
    exact a5 c k (by omega) (by omega) (by omega)
/-- a new part that is a chip -/
theorem r_comp {c u w : Nat} (hc : c < 16) (hO : m_ownBits (c : Int) t = some ((p 4 (2 + c) : Int), t)) (h158 : t 121 158 = (u : Int)) (h170 : t 121 170 = (w : Int)) (hu : u + p 4 (2 + c) ≤ 40000) (hw : w < 20000) : ∃ t', m_newPart ((2 + c : Nat) : Int) t = some ((u : Int), t') ∧ t' 121 158 = ((u + p 4 (2 + c) : Nat) : Int) ∧ t' 121 170 = ((w + 1 : Nat) : Int) ∧ (t' 231 w = (c : Int) ∧ t' 232 w = (u : Int)) ∧ (∀ x, u ≤ x → x < u + p 4 (2 + c) → t' 222 x = -1 ∧ t' 223 x = 0) ∧ (∀ x, ¬ (u ≤ x ∧ x < u + p 4 (2 + c)) → t' 222 x = t 222 x ∧ t' 223 x = t 223 x) ∧ (∀ x, x ≠ w → t' 231 x = t 231 x ∧ t' 232 x = t 232 x) ∧ ∀ c' k, ¬ (222 ≤ c' ∧ c' ≤ 223) → ¬ (231 ≤ c' ∧ c' ≤ 232) → ¬ (c' = 121 ∧ (k = 158 ∨ k = 170)) → t' c' k = t c' k := by
  obtain ⟨t1, a1, a2, a3, a4, a5⟩ := r_nb (n := p 4 (2 + c)) h158 hu
  have g1 : t1 121 170 = (w : Int) := by rw [a5 121 170 (by omega) (by omega) (by omega)]; exact h170
  refine ⟨up (up (up t1 231 w (c : Int)) 232 w (u : Int)) 121 170 ((w : Int) + 1), ?_, ?_, ?_, ⟨?_, ?_⟩, ?_, ?_, ?_, ?_⟩
  · unfold m_newPart
    rw [gr (by omega), if_neg (by omega), show ((2 + c : Nat) : Int) - 2 = (c : Int) by omega, hO, bq, a1, bq, g1, gd_pos (by omega), Int.toNat_natCast, lt_eq, show up t1 231 w (c : Int) 121 170 = (w : Int) by rw [up_ne (by omega)]; exact g1, gd_pos (by omega), Int.toNat_natCast, lt_eq, show up (up t1 231 w (c : Int)) 232 w (u : Int) 121 170 = (w : Int) by rw [up_ne (by omega), up_ne (by omega)]; exact g1, lt_eq]
  · rw [up_ne (by omega), up_ne (by omega), up_ne (by omega)]; exact a2
  · rw [up_same]; rfl
  · rw [up_ne (by omega), up_ne (by omega), up_same]
  · rw [up_ne (by omega), up_same]
  · intro x x1 x2
    rw [up_ne (by omega), up_ne (by omega), up_ne (by omega), up_ne (by omega), up_ne (by omega), up_ne (by omega)]
    exact a3 x x1 x2
  · intro x x1
    rw [up_ne (by omega), up_ne (by omega), up_ne (by omega), up_ne (by omega), up_ne (by omega), up_ne (by omega)]
    exact a4 x x1
  · intro x x1
    rw [up_ne (by omega), up_ne (by omega), up_ne (by omega), up_ne (by omega), up_ne (by omega), up_ne (by omega)]
    exact ⟨a5 231 x (by omega) (by omega) (by omega), a5 232 x (by omega) (by omega) (by omega)⟩
  · intro c' k c1 c2 c3
    rw [up_ne (by omega), up_ne (by omega), up_ne (by omega)]
    exact a5 c' k (by omega) (by omega) (by omega)
end CKx
