/-! chips: the board that stands -/
section CKl
variable (n m nin nout : Nat) (g d ob wd : Nat → Nat) (lc pf pf' : Nat) (O O' : List Nat)
/-- a trace of the reference: from x in so many steps to b -/
def TRr (t : iS) (b : Int) : Nat → Int → Prop
  | 0, x => x = b ∧ (-2 ≤ x ∧ x < 40000) ∧ (x < 0 ∨ (t 223 x.toNat ≠ 0 ∧ rg (t 223 x.toNat)) ∨ (t 223 x.toNat = 0 ∧ t 222 x.toNat = -1))
  | m + 1, x => (0 ≤ x ∧ x < 40000) ∧ (t 223 x.toNat = 0 ∧ t 222 x.toNat ≠ -1 ∧ -2 ≤ t 222 x.toNat ∧ t 222 x.toNat < 40000) ∧ TRr t b m (t 222 x.toNat)
def TRc (s : iS) (z : Int) : Nat → Int → Prop
  | 0, x => x = -1 - z ∧ 0 ≤ z ∧ z < 1694
  | m + 1, x => (0 ≤ x ∧ x < 40000) ∧ TRc s z m (s 111 x.toNat)
def PNs (s t : iS) : Prop := (s 72 2 = (lc : Int) + 3 ∧ t 121 122 = (lc : Int) + 1 ∧ t 121 174 = (lc : Int) ∧ lc < 16) ∧ (s 76 (lc + 2) = (pf : Int) ∧ s 77 (lc + 2) = (pf : Int) + nin ∧ s 76 (lc + 3) = (pf : Int) + nin + nout) ∧ (t 196 lc = (pf' : Int) ∧ t 196 (lc + 1) = (pf' : Int) + nin + nout) ∧ (1 ≤ nin ∧ 1 ≤ nout ∧ nin + nout ≤ 12 ∧ pf + nin + nout ≤ 197 ∧ pf' + nin + nout ≤ 200) ∧ ∀ k, k < nin + nout → (1 ≤ wd k ∧ wd k ≤ 16) ∧ s 91 (pf + k) = (wd k : Int) ∧ t 199 (pf' + k) = (wd k : Int) ∧ t 197 (pf' + k) = if k < nin then 0 else 1
def ORd (s t : iS) : Prop := (s 108 16 = (O.length : Int) ∧ ∀ i, i < O.length → s 116 i = ((O.getD i 0 : Nat) : Int)) ∧ (t 121 166 = (O'.length : Int) ∧ ∀ i, i < O'.length → t 227 i = ((O'.getD i 0 : Nat) : Int)) ∧ SRT n (fun x => s 114 x ≠ -1) (fun x => cgv n s (s 113 x)) (fun x => cgv n s (s 114 x)) O (s 117) ∧ SRT n (fun x => t 224 x = 0) (fun x => rgv t (t 228 x)) (fun x => rgv t (t 229 x)) O' (t 226) ∧ (∀ x, x < n → s 114 x ≠ -1 → x ∈ O) ∧ (∀ x, x < n → t 224 x = 0 → x ∈ O') ∧ (∀ x ∈ O, 1 ≤ s 117 x ∧ s 117 x ≤ 1502) ∧ ∀ x ∈ O', 1 ≤ t 226 x ∧ t 226 x ≤ 1502
def OUs (s t : iS) : Prop := ∀ k i, k < nout → i < wd (nin + k) → ∃ m' b, TRr t b m' ((sW wd 0 (nin + k) + i : Nat) : Int) ∧ SGr n m nin ob wd t (s 115 (16 * k + i)) b
def BRg (T : Nat) (s t : iS) : Prop := BSt n m nin g d ob wd s t ∧ PNs nin nout wd lc pf pf' s t ∧ ORd n O O' s t ∧ VAL n m nin ob wd (fun _ => True) s t ∧ OUs n m nin nout ob wd s t ∧ (s 108 18 = 1 ∧ t 121 152 = 1) ∧ s 108 17 = t 121 173 ∧ 0 ≤ s 108 17 ∧ s 108 17 ≤ (T : Int)
end CKl
/-- the board: none in both, or one that corresponds -/
def QBd (T : Nat) (s t : iS) : Prop := (s 108 18 = 0 ∧ t 121 152 = 0 ∧ 0 ≤ t 121 174 ∧ t 121 174 < 16) ∨ ∃ n m nin nout g d ob wd lc pf pf' O O', BRg n m nin nout g d ob wd lc pf pf' O O' T s t
section CKm
variable {n m nin nout : Nat} {g d ob wd : Nat → Nat} {lc pf pf' : Nat} {O O' : List Nat} {s t s' t' : iS}
theorem r_src {b : Int} : ∀ (m : Nat) (x : Int), TRr t b m x → m_source x t = some (b, t)
  | 0, x, h => by
    obtain ⟨e, r, h⟩ := h
    subst e
    unfold m_source m_source_2
    rw [lp_end (f := fun l : Int × iS => m_source_2b (l.1) (l.2)) (e := (x, t)) (by
      show m_source_2b x t = _
      unfold m_source_2b
      rw [gr (by omega)]
      by_cases c : x < 0
      · rw [if_pos c]
      · rcases h with h | ⟨h1, h2⟩ | ⟨h1, h2⟩
        · exact absurd h c
        · rw [if_neg c, gd_pos (by omega), gd_pos h2, if_neg h1]
        · rw [if_neg c, gd_pos (by omega), h1, gr (by omega), if_pos rfl, h2, gr (by omega), if_pos rfl])]
    rfl
  | m + 1, x, h => by
    obtain ⟨r, ⟨h1, h2, h3⟩, h⟩ := h
    have ih := r_src m _ h
    unfold m_source m_source_2 at ih ⊢
    rw [lp_next (f := fun l : Int × iS => m_source_2b (l.1) (l.2)) (l := (x, t)) (l' := (t 222 x.toNat, t)) (by
      show m_source_2b x t = _
      unfold m_source_2b
      rw [gr (by omega), if_neg (by omega), gd_pos (by omega), h1, gr (by omega), if_pos rfl, gr (by omega), if_neg h2])]
    exact ih
theorem c_trc {z : Int} : ∀ (m : Nat) (x v : Int), TRc s z m x → 0 ≤ v → v + m < 40000 → brd_traceBack_4 x v s = some (z, s)
  | 0, x, v, h, h0, h1 => by
    obtain ⟨e, r1, r2⟩ := h
    unfold brd_traceBack_4
    rw [lp_end (f := fun l : Int × Int × iS => brd_traceBack_4b (l.1) (l.2.1) (l.2.2)) (e := (x, s)) (by
      show brd_traceBack_4b x v s = _
      unfold brd_traceBack_4b
      have h1' : v + ((0 : Nat) : Int) < 40000 := h1
      rw [gr (by omega), if_neg (by omega), gr (by omega), if_pos (by omega)]), bn]
    show brd_traceBack_33 x s = _
    unfold brd_traceBack_33
    rw [gr (by omega), if_neg (by omega), show -1 - x = z by omega]
  | m + 1, x, v, h, h0, h1 => by
    obtain ⟨r, h⟩ := h
    have ih := c_trc m _ (v + 1) h (by omega) (by omega)
    unfold brd_traceBack_4 at ih ⊢
    rw [lp_next (f := fun l : Int × Int × iS => brd_traceBack_4b (l.1) (l.2.1) (l.2.2)) (l := (x, v, s)) (l' := (s 111 x.toNat, v + 1, s)) (by
      show brd_traceBack_4b x v s = _
      unfold brd_traceBack_4b
      rw [gr (by omega), if_neg (by omega), gr (by omega), if_neg (by omega), if_neg (by omega), gd_pos (by omega)])]
    exact ih
theorem TRr_of {b : Int} (h222 : t' 222 = t 222) (h223 : t' 223 = t 223) : ∀ (m : Nat) (x : Int), TRr t b m x → TRr t' b m x
  | 0, x, h => by
    unfold TRr at h ⊢
    rw [h222, h223]
    exact h
  | m + 1, x, h => by
    obtain ⟨h1, h2, h3⟩ := h
    refine ⟨h1, by rw [h222, h223]; exact h2, ?_⟩
    rw [h222]
    exact TRr_of h222 h223 m _ h3
/-- where a pin's bits begin -/
theorem r_pp (hp : PNs nin nout wd lc pf pf' s t) {k : Nat} (hk : k ≤ nin + nout) : m_pinPlace (lc : Int) (((pf' + k : Nat)) : Int) t = some (((sW wd 0 k : Nat) : Int), t) := by
  obtain ⟨⟨-, -, -, p1⟩, -, ⟨p2, p3⟩, ⟨q1, q2, q3, q4, q5⟩, p4⟩ := hp
  have L := lpG (f := fun l : Int × Int × iS => m_pinPlace_10b (((pf' + k : Nat)) : Int) (l.1) (l.2.1) (l.2.2)) (M := k) (I := fun i l => l = (((sW wd 0 i : Nat) : Int), ((pf' + i : Nat) : Int), t)) (J := fun e => e = (((sW wd 0 k : Nat) : Int), t)) (by
    rintro i l hi rfl
    refine ⟨_, ?_, rfl⟩
    show m_pinPlace_10b (((pf' + k : Nat)) : Int) ((sW wd 0 i : Nat) : Int) ((pf' + i : Nat) : Int) t = _
    unfold m_pinPlace_10b
    rw [gr (by omega), gr (by omega), if_neg (by omega), gd_pos (by omega), Int.toNat_natCast, (p4 i (by omega)).2.2.1, sW_s, Nat.zero_add]
    rw [show ((sW wd 0 i + wd i : Nat) : Int) = ((sW wd 0 i : Nat) : Int) + (wd i : Int) by omega, show ((pf' + (i + 1) : Nat) : Int) = ((pf' + i : Nat) : Int) + 1 by omega]) (by
    rintro l rfl
    refine ⟨_, ?_, rfl⟩
    show m_pinPlace_10b (((pf' + k : Nat)) : Int) ((sW wd 0 k : Nat) : Int) ((pf' + k : Nat) : Int) t = _
    unfold m_pinPlace_10b
    rw [gr (by omega), gr (by omega), if_pos (by omega)]) k 0 (0, (pf' : Int), t) (by omega) rfl
  obtain ⟨e, l1, l2⟩ := L
  unfold m_pinPlace
  rw [gd_pos (by omega), Int.toNat_natCast, p2]
  unfold m_pinPlace_10
  rw [l1, l2]
  rfl
/-- the k-th IN or OUT pin -/
theorem r_bp (hp : PNs nin nout wd lc pf pf' s t) (hb : t 121 152 = 1) {v : Int} (hv : rg v) {o : Int} (ho : o = 0 ∨ o = 1) : m_boardPin v o t = some (if 0 ≤ v ∧ v < (if o = 0 then (nin : Int) else nout) then (pf' : Int) + (if o = 0 then 0 else (nin : Int)) + v else -1, t) := by
  obtain ⟨⟨-, -, p0, p1⟩, -, ⟨p2, p3⟩, ⟨q1, q2, q3, q4, q5⟩, p4⟩ := hp
  unfold m_boardPin
  rw [p0, gd_pos (by omega), Int.toNat_natCast, p2]
  obtain ⟨lo, hlo⟩ : ∃ lo : Nat, lo = if o = 0 then 0 else nin := ⟨_, rfl⟩
  obtain ⟨hi, hhi⟩ : ∃ hi : Nat, hi = if o = 0 then nin else nin + nout := ⟨_, rfl⟩
  have ci : (if o = 0 then (nin : Int) else nout) = (hi : Int) - lo := by
    rw [hlo, hhi]
    split <;> omega
  have cl : (if o = 0 then 0 else (nin : Int)) = (lo : Int) := by
    rw [hlo]
    split <;> rfl
  have lh : lo ≤ hi ∧ hi ≤ nin + nout := by
    rw [hlo, hhi]
    split <;> omega
  rw [ci, cl]
  have is : ∀ k, k < nin + nout → (t 197 (pf' + k) = o ↔ lo ≤ k ∧ k < hi) := by
    intro k hk
    rw [(p4 k hk).2.2.2, hlo, hhi]
    rcases ho with e | e
    · rw [e, if_pos rfl, if_pos rfl]
      by_cases c : k < nin
      · rw [if_pos c]; exact ⟨fun _ => ⟨by omega, c⟩, fun _ => rfl⟩
      · rw [if_neg c]; exact ⟨fun q => by omega, fun q => absurd q.2 c⟩
    · rw [e, if_neg (show ¬ (1 : Int) = 0 by omega), if_neg (show ¬ (1 : Int) = 0 by omega)]
      by_cases c : k < nin
      · rw [if_pos c]; exact ⟨fun q => by omega, fun q => by omega⟩
      · rw [if_neg c]; exact ⟨fun _ => ⟨by omega, by omega⟩, fun _ => rfl⟩
  have go : ∀ (r k : Nat) (w : Int), k + r = nin + nout → (0 ≤ v → w = v - (if k < lo then 0 else if k < hi then ((k : Int) - lo) else (hi : Int) - lo) ∧ 0 ≤ w) → lp (L := Int × Int × iS) (E := (Int × iS) ⊕ (iS)) (fun l => m_boardPin_13b v o (l.1) (l.2.1) (l.2.2)) (w, (pf' : Int) + k, t) = some (if 0 ≤ v ∧ v < (hi : Int) - lo then .inl ((pf' : Int) + lo + v, t) else .inr t) := by
    intro r
    induction r with
    | zero =>
      intro k w hk hw
      refine lp_end (f := fun l : Int × Int × iS => m_boardPin_13b v o (l.1) (l.2.1) (l.2.2)) ?_
      show m_boardPin_13b v o w ((pf' : Int) + k) t = _
      unfold m_boardPin_13b
      rw [hb, gr (by omega), if_neg (by omega), gr (by omega)]
      by_cases c : v < 0
      · rw [if_pos c, if_neg (fun q => by omega)]
      · have hw' := hw (by omega)
        rw [if_neg (by omega)] at hw'
        rw [if_neg c, p0, gd_pos (by omega), gr (by omega), show ((lc : Int) + 1).toNat = lc + 1 by omega, p3, gr (by omega), if_pos (by omega)]
        by_cases c2 : k < hi
        · rw [if_pos c2] at hw'
          omega
        · rw [if_neg c2] at hw'
          rw [if_neg (fun q => by omega)]
    | succ r ih =>
      intro k w hk hw
      have kk : k < nin + nout := by omega
      have f1 : v < 0 → m_boardPin_13b v o w ((pf' : Int) + k) t = some (.inr (.inr t)) := by
        intro c
        unfold m_boardPin_13b
        rw [hb, gr (by omega), if_neg (by omega), gr (by omega), if_pos c]
      by_cases c : v < 0
      · rw [lp_end (f := fun l : Int × Int × iS => m_boardPin_13b v o (l.1) (l.2.1) (l.2.2)) (l := (w, (pf' : Int) + k, t)) (f1 c), if_neg (fun q => by omega)]
      · have hw' := hw (by omega)
        have p7 : t 197 (pf' + k) = 0 ∨ t 197 (pf' + k) = 1 := by
          rw [(p4 k kk).2.2.2]
          split
          · exact Or.inl rfl
          · exact Or.inr rfl
        have f2 : m_boardPin_13b v o w ((pf' : Int) + k) t = if t 197 (pf' + k) = o then gd (rg w) (if w = 0 then some (.inr (.inl ((pf' : Int) + k, t))) else some (.inl (w - 1, (pf' : Int) + k + 1, t))) else some (.inl (w, (pf' : Int) + k + 1, t)) := by
          unfold m_boardPin_13b
          rw [hb, gr (by omega), if_neg (by omega), gr (by omega), if_neg c, p0, gd_pos (by omega), gr (by omega), show ((lc : Int) + 1).toNat = lc + 1 by omega, p3, gr (by omega), if_neg (by omega), gd_pos (by omega), show ((pf' : Int) + k).toNat = pf' + k by omega, gr (by omega), gr (by omega)]
        have ik := is k kk
        have nxt : ((pf' : Int) + k + 1) = (pf' : Int) + ((k + 1 : Nat) : Int) := by omega
        by_cases c2 : lo ≤ k ∧ k < hi
        · rw [if_neg (by omega), if_pos (by omega)] at hw'
          rw [if_pos (ik.mpr c2), gr (by have := hv.2; omega)] at f2
          by_cases c3 : w = 0
          · rw [if_pos c3] at f2
            rw [lp_end (f := fun l : Int × Int × iS => m_boardPin_13b v o (l.1) (l.2.1) (l.2.2)) (l := (w, (pf' : Int) + k, t)) f2, if_pos ⟨by omega, by omega⟩, show (pf' : Int) + k = (pf' : Int) + lo + v by omega]
          · rw [if_neg c3, nxt] at f2
            rw [lp_next (f := fun l : Int × Int × iS => m_boardPin_13b v o (l.1) (l.2.1) (l.2.2)) (l := (w, (pf' : Int) + k, t)) f2]
            refine ih (k + 1) (w - 1) (by omega) (fun _ => ?_)
            rw [if_neg (by omega)]
            by_cases c4 : k + 1 < hi
            · rw [if_pos c4]; omega
            · rw [if_neg c4]; omega
        · rw [if_neg (fun q => c2 (ik.mp q)), nxt] at f2
          rw [lp_next (f := fun l : Int × Int × iS => m_boardPin_13b v o (l.1) (l.2.1) (l.2.2)) (l := (w, (pf' : Int) + k, t)) f2]
          refine ih (k + 1) w (by omega) (fun _ => ?_)
          by_cases c3 : k < lo
          · rw [if_pos c3] at hw'
            by_cases c4 : k + 1 < lo
            · rw [if_pos c4]; exact hw'
            · rw [if_neg c4]
              by_cases c5 : k + 1 < hi
              · rw [if_pos c5]; omega
              · rw [if_neg c5]; omega
          · rw [if_neg c3, if_neg (by omega)] at hw'
            rw [if_neg (by omega), if_neg (by omega)]
            exact hw'
  have G := go (nin + nout) 0 v (by omega) (fun h => by
    by_cases c : 0 < lo
    · rw [if_pos c]; omega
    · rw [if_neg c]
      by_cases c2 : 0 < hi
      · rw [if_pos c2]; omega
      · rw [if_neg c2]; omega)
  unfold m_boardPin_13
  rw [show (pf' : Int) + ((0 : Nat) : Int) = (pf' : Int) by omega] at G
  rw [G, bn]
  by_cases c : 0 ≤ v ∧ v < (hi : Int) - lo
  · rw [if_pos c, if_pos c]
    rfl
  · rw [if_neg c, if_neg c]
    rfl
end CKm
