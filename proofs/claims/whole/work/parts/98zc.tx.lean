/-! the text behind a fault: the reference -/
section TXb
variable {F : Nat → Int} {n N : Nat} {P : Nat → Nat} {s0 t0 t : iS} {f : Int} {u M : Nat}
theorem RZ_f (hf : ft f u N) (hd : RD t0 N P t f u M) : 0 < t 121 11 ∧ t 121 11 < 100 := by
  have := hd.2.2.1
  omega
theorem RZ_ty32 (h : TKR 0 F n N P s0 t0) (hf : ft f u N) (hd : RD t0 N P t f u M) {x : Int} (hx : x = 0 ∨ x = 1) : ∃ r, m_type_32 x t = some (r, t) ∧ -1 ≤ r ∧ r < 2000 := by
  have hN2 := N1001 h
  have g := RZ_f hf hd
  obtain ⟨p, hp, hp2⟩ := hd.2.1
  have G : m_type_57 t = some ((p : Int) - 1, t) := by
    unfold m_type_57
    rw [rGoD g, bq, hp2]
  refine ⟨(p : Int) - 1, ?_, by omega, by omega⟩
  unfold m_type_32
  rw [gr (by omega)]
  by_cases c : x = 0
  · rw [if_pos c, gd_pos (by omega)]
    have k := tkK h hp
    have e : t 124 (t 121 10).toNat = t0 124 p := by rw [hp2, Int.toNat_natCast, hd.1.2.1]
    have k2 : -2147483648 ≤ t 124 (t 121 10).toNat ∧ t 124 (t 121 10).toNat ≤ 2147483647 := by
      rw [e]
      omega
    rw [gr k2]
    split
    · exact G
    · rw [rSyD h hd.1 g hp2 hp, bq, hp2]
  · rw [if_neg c]
    exact G
theorem mty_eq {p : Nat} (h : TKR 0 F n N P s0 t0) (hr : SR t0 t) (hp2 : t 121 10 = (p : Int)) (hp : p < N) : m_type t = if s0 9 p = 263 ∨ s0 9 p = 264 ∨ s0 9 p = 265 then m_type_32 1 t else m_type_32 0 t := by
  have I : ∀ a : Int, -2147483648 ≤ (if s0 9 p = a then (1 : Int) else 0) ∧ (if s0 9 p = a then (1 : Int) else 0) ≤ 2147483647 := fun a => by
    split <;> omega
  unfold m_type m_type_27
  rw [rW h hr hp2 hp (by omega), bq, gr (I _)]
  by_cases c1 : s0 9 p = 7 + 256
  · rw [if_pos c1, if_neg (by omega), if_pos (by omega)]
  · rw [if_neg c1, if_pos rfl, rW h hr hp2 hp (by omega), bq, gr (I _)]
    by_cases c2 : s0 9 p = 8 + 256
    · rw [if_pos c2, if_neg (by omega), if_pos (by omega)]
    · rw [if_neg c2, if_pos rfl, rW h hr hp2 hp (by omega), bq, gr (I _)]
      by_cases c3 : s0 9 p = 9 + 256
      · rw [if_pos c3, if_neg (by omega), if_pos (by omega)]
      · rw [if_neg c3, if_pos rfl, if_neg (by omega)]
theorem RZ_type (h : TKR 0 F n N P s0 t0) (hf : ft f u N) (hd : RD t0 N P t f u M) : ∃ r, m_type t = some (r, t) ∧ -1 ≤ r ∧ r < 2000 := by
  obtain ⟨p, hp, hp2⟩ := hd.2.1
  rw [mty_eq h hd.1 hp2 hp]
  split
  · exact RZ_ty32 h hf hd (x := 1) (Or.inr rfl)
  · exact RZ_ty32 h hf hd (x := 0) (Or.inl rfl)
theorem RZ_decl (h : TKR 0 F n N P s0 t0) (hf : ft f u N) (hd : RD t0 N P t f u M) {v w : Int} : m_declares v w t = some (0, t) := by
  have g := RZ_f hf hd
  obtain ⟨r, e, _⟩ := RZ_type h hf hd
  unfold m_declares
  rw [rGoD g, bq, e, bq]
  unfold m_declares_12
  rw [lp_end (f := fun l : Int × iS => m_declares_12b v w r (l.1) (l.2)) (l := (1, t)) (e := .inr (.inr t)) (by
    show m_declares_12b v w r 1 t = _
    unfold m_declares_12b
    rw [gr (by omega), if_neg (by omega), gr (by omega), if_neg (by omega)]), bn]
  show m_declares_211 t = _
  unfold m_declares_211
  rw [RD_ns h hf hd (by omega), bq]
theorem RZ_par (h : TKR 0 F n N P s0 t0) (hf : ft f u N) (hd : RD t0 N P t f u M) {v : Int} : m_parameters v t = some (0, t) := by
  have g := RZ_f hf hd
  obtain ⟨p, hp, hp2⟩ := hd.2.1
  have Z : ∀ x : Int, x = 0 ∨ x = 1 → m_parameters_20 v x t = some (0, t) := by
    intro x hx
    unfold m_parameters_20 m_parameters_21
    rw [lp_end (f := fun l : Int × iS => m_parameters_21b v (l.1) (l.2)) (l := (x, t)) (e := .inr (.inr t)) (by
      show m_parameters_21b v x t = _
      unfold m_parameters_21b
      rw [gr (by omega)]
      by_cases c : x = 0
      · rw [if_pos c]
      · rw [if_neg c, gr (by omega), if_neg (by omega)]), bn]
    show m_parameters_138 t = _
    unfold m_parameters_138
    rw [RD_ns h hf hd (by omega), bq]
  unfold m_parameters
  rw [RD_ns h hf hd (by omega), bq, rS h hd.1 hp2 hp (by omega), bq, gr (by split <;> omega)]
  by_cases c : s0 9 p = 41
  · rw [if_pos c, if_neg (by omega)]
    exact Z 0 (Or.inl rfl)
  · rw [if_neg c, if_pos rfl]
    exact Z 1 (Or.inr rfl)
theorem RZ_sts (hf : ft f u N) (hd : RD t0 N P t f u M) : m_statements t = some (0, up t 121 55 0) := by
  have g := RZ_f hf hd
  unfold m_statements
  rw [lt_eq, stq, lS_dead (by rw [up_ne (by omega)]; exact g), bn]
theorem RD_55 {x : Int} (h : RD t0 N P t f u M) : RD t0 N P (up t 121 55 x) f u M := by
  obtain ⟨h1, ⟨p, h2, h3⟩, h4, h5, ⟨I, h6, h7⟩, h8⟩ := h
  exact ⟨SR_up h1 (by omega), ⟨p, h2, by rw [up_ne (by omega)]; exact h3⟩, by rw [up_ne (by omega)]; exact h4, by rw [up_ne (by omega)]; exact h5, ⟨I, by rw [up_ne (by omega)]; exact h6, h7⟩, by rw [up_ne (by omega)]; exact h8⟩
theorem RZ_235 (hf : ft f u N) (hd : RD t0 N P t f u M) (h17 : 1 ≤ t 121 17 ∧ t 121 17 ≤ 60) : ∃ t', m_subr_235 t = some (0, t') ∧ RD t0 N P t' f u M ∧ t' 121 17 = t 121 17 := by
  have d1 : RD t0 N P (up t 136 (t 121 17 - 1).toNat (t 121 33)) f u M := RD_upr hd (by omega)
  have g := RZ_f hf (RD_55 (x := 0) d1)
  unfold m_subr_235
  rw [gd_pos (by omega), lt_eq, RZ_sts hf d1, bq, gr (by omega), if_neg (by omega)]
  exact ⟨_, rfl, RD_55 d1, by rw [up_ne (by omega), up_ne (by omega)]⟩
theorem RZ_205 (hf : ft f u N) (hd : RD t0 N P t f u M) (h17 : 1 ≤ t 121 17 ∧ t 121 17 ≤ 60) : ∃ t', m_subr_205 t = some (0, t') ∧ RD t0 N P t' f u M ∧ t' 121 17 = t 121 17 := by
  have g := RZ_f hf hd
  unfold m_subr_205
  rw [lp_end (f := fun l : iS => m_subr_205b l) (l := t) (e := t) (by
    show m_subr_205b t = _
    unfold m_subr_205b
    rw [gr (by omega), if_neg (by omega)]), bn]
  exact RZ_235 hf hd h17
theorem RZ_41 (hf : ft f u N) (hd : RD t0 N P t f u M) {v w : Int} : m_subr_41 v w t = some (0, t) := by
  have g := RZ_f hf hd
  unfold m_subr_41
  rw [gr (by omega), if_neg (by omega)]
theorem RZ_31 (hf : ft f u N) (hd : RD t0 N P t f u M) {v w : Int} (hw : -1 ≤ w ∧ w < 2000) : m_subr_31 v w t = some (0, t) := by
  unfold m_subr_31
  rw [gr (by omega)]
  by_cases c : w = -1
  · rw [if_pos c, rGoD (RZ_f hf hd), bq, RZ_41 hf hd]
  · rw [if_neg c, RZ_41 hf hd]
theorem RZ_214 (h : TKR 0 F n N P s0 t0) (hf : ft f u N) (hd : RD t0 N P t f u M) : m_texts_214 t = some (.inl (up t 121 48 (t 121 48 - 1))) := by
  have g := RZ_f hf hd
  unfold m_texts_214
  rw [lp_end (f := fun l : iS => m_texts_214b l) (l := t) (e := t) (by
    show m_texts_214b t = _
    unfold m_texts_214b
    rw [gr (by omega), if_neg (by omega)]), bn]
  unfold m_texts_252
  rw [RD_cs h hf hd (by omega), bq]
theorem RZ_170 (h : TKR 0 F n N P s0 t0) (hf : ft f u N) (hd : RD t0 N P t f u M) : m_texts_170 t = some (.inl (up t 121 48 (t 121 48 - 1))) := by
  have g := RZ_f hf hd
  unfold m_texts_170
  rw [lp_end (f := fun l : iS => m_texts_170b l) (l := t) (e := t) (by
    show m_texts_170b t = _
    unfold m_texts_170b
    rw [gr (by omega), if_neg (by omega)]), bn]
  exact RZ_214 h hf hd
theorem RZ_114 (hf : ft f u N) (hd : RD t0 N P t f u M) : m_texts_114 t = some (.inr (.inl t)) := by
  have g := RZ_f hf hd
  unfold m_texts_114
  rw [gr (by omega), if_neg (by omega)]
theorem RZ_93 (hf : ft f u N) (hd : RD t0 N P t f u M) : m_texts_93 t = some (.inr (.inl t)) := by
  have g := RZ_f hf hd
  unfold m_texts_93
  rw [gr (by omega), if_neg (by omega), RZ_114 hf hd]
theorem RZ_45b (hf : ft f u N) (hd : RD t0 N P t f u M) : m_texts_45b t = some (.inr (.inr t)) := by
  have g := RZ_f hf hd
  unfold m_texts_45b
  rw [gr (by omega), if_neg (by omega)]
end TXb
