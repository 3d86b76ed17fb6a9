/-! chips: the reference's order -/
section CKk
variable {n : Nat} {t t' t0 : iS} {O : List Nat}
def ROd (n : Nat) (t0 : iS) (O : List Nat) (t : iS) : Prop := (O.Nodup ∧ (∀ z ∈ O, z < n ∧ t0 224 z = 0) ∧ t 121 166 = (O.length : Int) ∧ ∀ j, j < O.length → t 227 j = ((O.getD j 0 : Nat) : Int)) ∧ (∀ z, z < n → t0 224 z = 0 → (z ∈ O ↔ t 226 z ≠ -1)) ∧ (∀ j, j < O.length → ∀ y, (rgv t0 (t0 228 (O.getD j 0)) = some y ∨ rgv t0 (t0 229 (O.getD j 0)) = some y) → ∃ j', j' < j ∧ O.getD j' 0 = y) ∧ (∀ x ∈ O, t 226 x = 1 + max (lvo (t 226) (rgv t0 (t0 228 x))) (lvo (t 226) (rgv t0 (t0 229 x)))) ∧ (∀ j, j < O.length → 1 ≤ t 226 (O.getD j 0) ∧ t 226 (O.getD j 0) ≤ (j : Int) + 1) ∧ ∀ c k, ¬ (c = 121 ∧ k = 166) → c ≠ 226 → c ≠ 227 → t c k = t0 c k
/-- what the reference's order asks of the gates -/
def RGd (n : Nat) (t0 : iS) : Prop := t0 121 161 = (n : Int) ∧ n ≤ 1500 ∧ (∀ x, x < n → t0 224 x = 0 ∨ t0 224 x = 1) ∧ ∀ x, x < n → ∀ z, (z = t0 228 x ∨ z = t0 229 x) → (-2 ≤ z ∧ z < 40000) ∧ (0 ≤ z → t0 223 z.toNat = 0 ∨ 1 ≤ t0 223 z.toNat ∧ t0 223 z.toNat ≤ (n : Int))
theorem rgv_lt {z : Int} {y : Nat} (hz : 0 ≤ z → t 223 z.toNat = 0 ∨ 1 ≤ t 223 z.toNat ∧ t 223 z.toNat ≤ (n : Int)) (h : rgv t z = some y) : y < n ∧ t 224 y = 0 := by
  unfold rgv at h
  by_cases c : 0 ≤ z ∧ t 223 z.toNat ≠ 0 ∧ t 224 (t 223 z.toNat - 1).toNat = 0
  · rw [if_pos c] at h
    injection h with h
    rcases hz c.1 with q | q
    · exact absurd q c.2.1
    · exact ⟨by omega, by rw [← h]; exact c.2.2⟩
  · rw [if_neg c] at h
    cases h
theorem r_lev (hG : RGd n t0) (h : ROd n t0 O t) {x : Nat} (hx : x < n) {z : Int} (hz : z = t0 228 x ∨ z = t0 229 x) : m_levelOf z t = some (lvo (t 226) (rgv t0 z), t) := by
  obtain ⟨-, hn, g1, g2⟩ := hG
  obtain ⟨z1, z2⟩ := g2 x hx z hz
  obtain ⟨-, -, -, -, -, fr⟩ := h
  have e223 : ∀ k, t 223 k = t0 223 k := fun k => fr 223 k (by omega) (by omega) (by omega)
  have e224 : ∀ k, t 224 k = t0 224 k := fun k => fr 224 k (by omega) (by omega) (by omega)
  unfold m_levelOf rgv
  rw [gr (by omega)]
  by_cases c1 : z < 0
  · rw [if_pos c1, if_neg (fun q => by omega)]
    rfl
  · rw [if_neg c1, gd_pos (by omega), e223, e224]
    have zz := z2 (by omega)
    rw [gr (by omega)]
    by_cases c2 : t0 223 z.toNat = 0
    · rw [if_pos c2, if_neg (fun q => q.2.1 c2)]
      rfl
    · have r := g1 (t0 223 z.toNat - 1).toNat (by omega)
      rw [if_neg c2, gd_pos (by omega), gr (by omega)]
      by_cases c3 : t0 224 (t0 223 z.toNat - 1).toNat = 0
      · rw [if_pos c3, if_pos ⟨by omega, c2, c3⟩]
        rfl
      · rw [if_neg c3, if_neg (fun q => c3 q.2.2)]
        rfl
theorem ROd_len (h : ROd n t0 O t) : O.length ≤ n := by
  have := nodup_len O (List.range n) h.1.1 (fun x hx => List.mem_range.mpr (h.1.2.1 x hx).1)
  rw [List.length_range] at this
  exact this
/-- a Nand that waits for one that is not in -/
def CLs (t0 : iS) (O : List Nat) (x : Nat) : Prop := t0 224 x = 0 → x ∉ O → ∃ y, (rgv t0 (t0 228 x) = some y ∨ rgv t0 (t0 229 x) = some y) ∧ y ∉ O
theorem ord_1 (hG : RGd n t0) (h : ROd n t0 O t) {x : Nat} (hx : x < n) {v1 v2 : Int} : ∃ t' v2', m_order_57b v1 v2 (x : Int) t = some (.inl (v2', (x : Int) + 1, t')) ∧ ((v2' = v2 ∧ t' = t ∧ CLs t0 O x) ∨ (v2' = 1 ∧ ROd n t0 (O ++ [x]) t')) := by
  have hG0 := hG
  obtain ⟨h161, hn, g1, g2⟩ := hG
  have h0 := h
  obtain ⟨⟨k1, k2, k3, k4⟩, k5, k6, k7, k8, k9⟩ := h
  have e161 : t 121 161 = (n : Int) := by rw [k9 121 161 (by omega) (by omega) (by omega)]; exact h161
  have e224 : t 224 x = t0 224 x := k9 224 x (by omega) (by omega) (by omega)
  have e228 : t 228 x = t0 228 x := k9 228 x (by omega) (by omega) (by omega)
  have e229 : t 229 x = t0 229 x := k9 229 x (by omega) (by omega) (by omega)
  have r224 := g1 x hx
  have lO := ROd_len h0
  have start : m_order_57b v1 v2 (x : Int) t = if t0 224 x = 0 then gd (rg (t 226 x)) (if t 226 x = (-1) then bd (m_levelOf (t0 228 x) t) (fun r9 s9 => bd (m_levelOf (s9 229 x) s9) (fun r10 s10 => gd (rg r9) (if r9 = (-1) then some (.inl (v2, ((x : Int) + 1), s10)) else gd (rg r10) (if r10 = (-1) then some (.inl (v2, ((x : Int) + 1), s10)) else if r9 ≤ r10 then m_order_146 v1 (x : Int) r10 1 (x : Int) s10 else m_order_146 v1 (x : Int) r9 1 (x : Int) s10)))) else some (.inl (v2, ((x : Int) + 1), t))) else some (.inl (v2, ((x : Int) + 1), t)) := by
    unfold m_order_57b
    rw [gr (by omega), e161, gr (by omega), if_neg (by omega), gd_pos (by omega), Int.toNat_natCast, e224, gr (by omega), e228]
  rw [start]
  by_cases c1 : t0 224 x = 0
  · rw [if_pos c1]
    by_cases c2 : t 226 x = -1
    · have xO : x ∉ O := fun q => (k5 x hx c1).mp q c2
      rw [c2, gr (by omega), if_pos (show (-1 : Int) = -1 by omega), r_lev hG0 h0 hx (Or.inl rfl), bq, e229, r_lev hG0 h0 hx (Or.inr rfl), bq]
      have lr : ∀ z, (z = t0 228 x ∨ z = t0 229 x) → -1 ≤ lvo (t 226) (rgv t0 z) ∧ lvo (t 226) (rgv t0 z) ≤ 1500 ∧ (lvo (t 226) (rgv t0 z) = -1 ↔ ∃ y, rgv t0 z = some y ∧ y ∉ O) ∧ (∀ y, rgv t0 z = some y → y ∈ O → 0 ≤ lvo (t 226) (rgv t0 z)) ∧ lvo (t 226) (rgv t0 z) ≤ (O.length : Int) := by
        intro z hz
        cases q : rgv t0 z with
        | none =>
          refine ⟨by show -1 ≤ (0 : Int); omega, by show (0 : Int) ≤ 1500; omega, ⟨fun e => ?_, fun ⟨y, e, _⟩ => by cases e⟩, fun y e => (by cases e), by show (0 : Int) ≤ _; omega⟩
          have e' : (0 : Int) = -1 := e
          omega
        | some y =>
          obtain ⟨y1, y2⟩ := rgv_lt (n := n) (g2 x hx z hz).2 q
          have iff := k5 y y1 y2
          show -1 ≤ t 226 y ∧ t 226 y ≤ 1500 ∧ (t 226 y = -1 ↔ _) ∧ (∀ y', some y = some y' → y' ∈ O → 0 ≤ t 226 y) ∧ t 226 y ≤ _
          by_cases m : y ∈ O
          · obtain ⟨j, j1, j2⟩ := mem_gdN m
            have b := k8 j j1
            rw [j2] at b
            have ii : t 226 y = -1 ↔ ∃ y' : Nat, some y = some y' ∧ y' ∉ O := by
              constructor
              · exact fun e => absurd e (iff.mp m)
              · intro q
                exfalso
                obtain ⟨y2, e, f⟩ := q
                have e2 : y = y2 := Option.some.inj e
                exact f (e2 ▸ m)
            exact ⟨by omega, by omega, ii, fun _ _ _ => by omega, by omega⟩
          · have e1 : t 226 y = -1 := by
              by_cases q1 : t 226 y = -1
              · exact q1
              · exact absurd (iff.mpr q1) m
            rw [e1]
            exact ⟨by omega, by omega, ⟨fun _ => ⟨y, rfl, m⟩, fun _ => rfl⟩, fun y' e f => by injection e with e; exact absurd (e ▸ f) m, by omega⟩
      obtain ⟨a1, a2, a3, a4, a5⟩ := lr _ (Or.inl rfl)
      obtain ⟨b1, b2, b3, b4, b5⟩ := lr _ (Or.inr rfl)
      obtain ⟨A, hA⟩ : ∃ A, A = lvo (t 226) (rgv t0 (t0 228 x)) := ⟨_, rfl⟩
      obtain ⟨B, hB⟩ : ∃ B, B = lvo (t 226) (rgv t0 (t0 229 x)) := ⟨_, rfl⟩
      rw [← hA] at a1 a2 a3 a4 a5
      rw [← hB] at b1 b2 b3 b4 b5
      rw [← hA, ← hB, gr (by omega)]
      by_cases ca : A = -1
      · rw [if_pos ca]
        refine ⟨t, v2, rfl, Or.inl ⟨rfl, rfl, fun _ _ => ?_⟩⟩
        obtain ⟨y, y1, y2⟩ := a3.mp ca
        exact ⟨y, Or.inl y1, y2⟩
      · rw [if_neg ca, gr (by omega)]
        by_cases cb : B = -1
        · rw [if_pos cb]
          refine ⟨t, v2, rfl, Or.inl ⟨rfl, rfl, fun _ _ => ?_⟩⟩
          obtain ⟨y, y1, y2⟩ := b3.mp cb
          exact ⟨y, Or.inr y1, y2⟩
        · rw [if_neg cb]
          have lO1 : O.length < n := by
            have := nodup_len (x :: O) (List.range n) (List.nodup_cons.mpr ⟨xO, k1⟩) (fun z hz => by
              rcases List.mem_cons.mp hz with e | e
              · rw [e]; exact List.mem_range.mpr hx
              · exact List.mem_range.mpr (k2 z e).1)
            rw [List.length_range, List.length_cons] at this
            exact this
          obtain ⟨t', ht'⟩ : ∃ t', t' = up (up (up t 226 x (1 + max A B)) 227 O.length (x : Int)) 121 166 ((O.length : Int) + 1) := ⟨_, rfl⟩
          have fin : ∀ M, M = max A B → m_order_146 v1 (x : Int) M 1 (x : Int) t = some (.inl (1, (x : Int) + 1, t')) := by
            intro M hM
            unfold m_order_146
            rw [gd_pos (by omega), Int.toNat_natCast, lt_eq]
            rw [show up t 226 x (1 + M) 121 166 = t 121 166 from up_ne (by omega), k3, gd_pos (by omega), Int.toNat_natCast, lt_eq, lt_eq]
            rw [show up (up t 226 x (1 + M)) 227 O.length (x : Int) 121 166 = t 121 166 by rw [up_ne (by omega), up_ne (by omega)], k3, hM, ← ht']
          have hin : (if A ≤ B then m_order_146 v1 (x : Int) B 1 (x : Int) t else m_order_146 v1 (x : Int) A 1 (x : Int) t) = some (.inl (1, (x : Int) + 1, t')) := by
            by_cases c : A ≤ B
            · rw [if_pos c]; exact fin B (by omega)
            · rw [if_neg c]; exact fin A (by omega)
          refine ⟨t', 1, hin, Or.inr ⟨rfl, ?_⟩⟩
          have n226 : ∀ z, z ≠ x → t' 226 z = t 226 z := fun z hz => by rw [ht', up_ne (by omega), up_ne (by omega), up_ne (by omega)]
          have x226 : t' 226 x = 1 + max A B := by rw [ht', up_ne (by omega), up_ne (by omega), up_same]
          have ll : (O ++ [x]).length = O.length + 1 := by rw [List.length_append]; rfl
          have gdE : (O ++ [x]).getD O.length 0 = x := by
            rw [List.getD_eq_getElem?_getD, List.getElem?_append_right (Nat.le_refl _), Nat.sub_self]
            rfl
          -- what is in keeps its givers
          have inG : ∀ z y, (z = t0 228 x ∨ z = t0 229 x) → rgv t0 z = some y → y ∈ O := by
            intro z y hz hy
            by_cases m : y ∈ O
            · exact m
            · rcases hz with e | e
              · rw [e] at hy
                exact absurd (a3.mpr ⟨y, hy, m⟩) ca
              · rw [e] at hy
                exact absurd (b3.mpr ⟨y, hy, m⟩) cb
          have lk : ∀ o : Option Nat, (∀ y, o = some y → y ∈ O) → lvo (t' 226) o = lvo (t 226) o := by
            intro o ho
            cases o with
            | none => rfl
            | some y => exact n226 y (fun e => xO (e ▸ ho y rfl))
          refine ⟨⟨?_, ?_, ?_, ?_⟩, ?_, ?_, ?_, ?_, ?_⟩
          · rw [List.nodup_append]
            exact ⟨k1, List.nodup_cons.mpr ⟨by simp, List.nodup_nil⟩, fun a ha b hb => by
              have : b = x := by simpa using hb
              rw [this]
              exact fun e => xO (e ▸ ha)⟩
          · intro z hz
            rcases List.mem_append.mp hz with q | q
            · exact k2 z q
            · have : z = x := by simpa using q
              rw [this]; exact ⟨hx, c1⟩
          · rw [ll, ht', up_same]; omega
          · intro j hj
            rw [ll] at hj
            by_cases e : j = O.length
            · rw [e, gdE, ht', up_ne (by omega), up_same]
            · rw [gd_appN (by omega), ht', up_ne (by omega), up_ne (by omega), up_ne (by omega)]
              exact k4 j (by omega)
          · intro z z1 z2
            rw [List.mem_append]
            by_cases e : z = x
            · rw [e, x226]
              exact ⟨fun _ => by omega, fun _ => Or.inr (by simp)⟩
            · rw [n226 z e, ← k5 z z1 z2]
              constructor
              · rintro (q | q)
                · exact q
                · exact absurd (by simpa using q) e
              · exact Or.inl
          · intro j hj y hy
            rw [ll] at hj
            by_cases e : j = O.length
            · rw [e, gdE] at hy
              have yO : y ∈ O := by
                rcases hy with q | q
                · exact inG _ y (Or.inl rfl) q
                · exact inG _ y (Or.inr rfl) q
              obtain ⟨j', j1, j2⟩ := mem_gdN yO
              exact ⟨j', by omega, by rw [gd_appN j1]; exact j2⟩
            · rw [gd_appN (by omega)] at hy
              obtain ⟨j', j1, j2⟩ := k6 j (by omega) y hy
              exact ⟨j', j1, by rw [gd_appN (by omega)]; exact j2⟩
          · intro z hz
            rcases List.mem_append.mp hz with q | q
            · have zx : z ≠ x := fun e => xO (e ▸ q)
              have gz : ∀ o, (o = rgv t0 (t0 228 z) ∨ o = rgv t0 (t0 229 z)) → ∀ y, o = some y → y ∈ O := by
                intro o ho y hy
                obtain ⟨j, j1, j2⟩ := mem_gdN q
                have : ∃ j', j' < j ∧ O.getD j' 0 = y := k6 j j1 y (by
                  rw [j2]
                  rcases ho with e | e
                  · exact Or.inl (by rw [← e]; exact hy)
                  · exact Or.inr (by rw [← e]; exact hy))
                obtain ⟨j', i1, i2⟩ := this
                rw [← i2]
                exact gd_memN (by omega)
              rw [n226 z zx, lk _ (gz _ (Or.inl rfl)), lk _ (gz _ (Or.inr rfl))]
              exact k7 z q
            · have : z = x := by simpa using q
              rw [this, x226, lk _ (fun y => inG _ y (Or.inl rfl)), lk _ (fun y => inG _ y (Or.inr rfl)), hA, hB]
          · intro j hj
            rw [ll] at hj
            by_cases e : j = O.length
            · rw [e, gdE, x226]; omega
            · rw [gd_appN (by omega), n226 _ (fun q => xO (q ▸ gd_memN (show j < O.length by omega)))]
              exact k8 j (by omega)
          · intro c k q1 q2 q3
            rw [ht', up_ne (by omega), up_ne (by omega), up_ne (by omega)]
            exact k9 c k q1 q2 q3
    · have xO : x ∈ O := (k5 x hx c1).mpr c2
      obtain ⟨j, j1, j2⟩ := mem_gdN xO
      have b := k8 j j1
      rw [j2] at b
      rw [gr (by omega), if_neg c2]
      exact ⟨t, v2, rfl, Or.inl ⟨rfl, rfl, fun _ q => absurd xO q⟩⟩
  · rw [if_neg c1]
    exact ⟨t, v2, rfl, Or.inl ⟨rfl, rfl, fun q => absurd q c1⟩⟩
theorem ord_o (hG : RGd n t0) {v1 : Int} : ∀ (k : Nat) (O : List Nat) (t : iS), n < O.length + k → ROd n t0 O t → ∃ t' O', lp (L := Int × iS) (E := iS) (fun l => m_order_49b v1 (l.1) (l.2)) ((1 : Int), t) = some t' ∧ ROd n t0 O' t' ∧ ∀ x, x < n → CLs t0 O' x
  | 0, O, t, hk, h => absurd (ROd_len h) (by omega)
  | k + 1, O, t, hk, h => by
    have e161 : ∀ {O u}, ROd n t0 O u → u 121 161 = (n : Int) := fun hu => by rw [hu.2.2.2.2.2 121 161 (by omega) (by omega) (by omega)]; exact hG.1
    have hn := hG.2.1
    have L := lpG (f := fun l : Int × Int × iS => m_order_57b v1 (l.1) (l.2.1) (l.2.2)) (M := n) (I := fun x l => l.2.1 = (x : Int) ∧ ∃ O', ROd n t0 O' l.2.2 ∧ ((l.1 = 0 ∧ ∀ y, y < x → CLs t0 O' y) ∨ (l.1 = 1 ∧ O.length < O'.length)) ∧ O.length ≤ O'.length) (J := fun e => ∃ O', ROd n t0 O' e.2 ∧ ((e.1 = 0 ∧ ∀ y, y < n → CLs t0 O' y) ∨ (e.1 = 1 ∧ O.length < O'.length))) (by
      rintro x ⟨v2, v3, u⟩ hx ⟨e, O', hu, hv, hl⟩
      have e' : v3 = (x : Int) := e
      subst e'
      obtain ⟨t', v2', a1, a2⟩ := ord_1 hG hu hx (v1 := v1) (v2 := v2)
      refine ⟨(v2', (x : Int) + 1, t'), a1, by show (x : Int) + 1 = ((x + 1 : Nat) : Int); omega, ?_⟩
      rcases a2 with ⟨b1, b2, b3⟩ | ⟨b1, b2⟩
      · rw [b1, b2]
        refine ⟨O', hu, ?_, hl⟩
        rcases hv with ⟨c1, c2⟩ | c
        · refine Or.inl ⟨c1, fun y hy => ?_⟩
          by_cases q : y = x
          · rw [q]; exact b3
          · exact c2 y (by omega)
        · exact Or.inr c
      · have l1 : (O' ++ [x]).length = O'.length + 1 := by rw [List.length_append]; rfl
        exact ⟨O' ++ [x], b2, Or.inr ⟨b1, by omega⟩, by omega⟩) (by
      rintro ⟨v2, v3, u⟩ ⟨e, O', hu, hv, hl⟩
      have e' : v3 = (n : Int) := e
      subst e'
      refine ⟨(v2, u), ?_, O', hu, hv⟩
      show m_order_57b v1 v2 (n : Int) u = _
      unfold m_order_57b
      rw [gr (by omega), e161 (u := u) hu, gr (by omega), if_pos (by omega)]) n 0 ((0 : Int), (0 : Int), t) (by omega) ⟨rfl, O, h, Or.inl ⟨rfl, fun y hy => absurd hy (Nat.not_lt_zero y)⟩, Nat.le_refl _⟩
    obtain ⟨⟨v, u⟩, l1, O', hu, hv⟩ := L
    have st : m_order_49b v1 1 t = some (.inl (v, u)) := by
      unfold m_order_49b
      rw [gr (by omega), if_neg (by omega)]
      unfold m_order_57
      rw [show lp (L := Int × Int × iS) (E := Int × iS) (fun l => m_order_57b v1 (l.1) (l.2.1) (l.2.2)) (0, 0, t) = some (v, u) from l1]
      rfl
    rw [lp_next (f := fun l : Int × iS => m_order_49b v1 (l.1) (l.2)) (l := ((1 : Int), t)) (l' := (v, u)) st]
    rcases hv with ⟨c1, c2⟩ | ⟨c1, c2⟩
    · have c1' : v = 0 := c1
      refine ⟨u, O', ?_, hu, c2⟩
      refine lp_end (f := fun l : Int × iS => m_order_49b v1 (l.1) (l.2)) ?_
      show m_order_49b v1 v u = _
      unfold m_order_49b
      rw [c1', gr (by omega), if_pos rfl]
    · have c1' : v = 1 := c1
      rw [c1']
      have c2' : O.length < O'.length := c2
      exact ord_o hG k O' u (by omega) hu
def nrN (t : iS) (x : Nat) : List Nat := (List.range x).filter (fun z => decide (t 224 z = 0))
theorem nrN_s {x : Nat} : nrN t (x + 1) = if t 224 x = 0 then nrN t x ++ [x] else nrN t x := by
  unfold nrN
  rw [List.range_succ, List.filter_append]
  by_cases c : t 224 x = 0
  · rw [if_pos c, List.filter_cons_of_pos (by simpa using c)]
    rfl
  · rw [if_neg c, List.filter_cons_of_neg (by simpa using c)]
    simp
theorem r_order (hG : RGd n t) : ∃ t' O r, m_order t = some (r, t') ∧ (r = 0 ∨ r = 1) ∧ (r = 1 ↔ ∀ x, x < n → t 224 x = 0 → x ∈ O) ∧ t' 121 166 = (O.length : Int) ∧ (∀ j, j < O.length → t' 227 j = ((O.getD j 0 : Nat) : Int)) ∧ SRT n (fun x => t 224 x = 0) (fun x => rgv t (t 228 x)) (fun x => rgv t (t 229 x)) O (t' 226) ∧ (∀ x ∈ O, 1 ≤ t' 226 x ∧ t' 226 x ≤ 1502) ∧ ∀ c k, ¬ (c = 121 ∧ k = 166) → c ≠ 226 → c ≠ 227 → t' c k = t c k := by
  have hG0 := hG
  obtain ⟨h161, hn, g1, g2⟩ := hG
  obtain ⟨t1, h1⟩ : ∃ t1, t1 = up t 121 166 0 := ⟨_, rfl⟩
  have L := lpG (f := fun l : Int × Int × iS => m_order_9b (l.1) (l.2.1) (l.2.2)) (M := n) (I := fun x l => l.1 = ((nrN t x).length : Int) ∧ l.2.1 = (x : Int) ∧ (∀ y, y < x → l.2.2 226 y = -1) ∧ ∀ c k, c ≠ 226 → l.2.2 c k = t1 c k) (J := fun e => e.1 = ((nrN t n).length : Int) ∧ (∀ y, y < n → e.2 226 y = -1) ∧ ∀ c k, c ≠ 226 → e.2 c k = t1 c k) (by
    rintro x ⟨v1, v2, u⟩ hx ⟨e1, e2, e3, e4⟩
    have e1' : v1 = ((nrN t x).length : Int) := e1
    have e2' : v2 = (x : Int) := e2
    subst e1' e2'
    have e3' : ∀ y, y < x → u 226 y = -1 := e3
    have e4' : ∀ c k, c ≠ 226 → u c k = t1 c k := e4
    have e161 : u 121 161 = (n : Int) := by rw [e4' 121 161 (by omega), h1, up_ne (by omega)]; exact h161
    have e224 : u 224 x = t 224 x := by rw [e4' 224 x (by omega), h1, up_ne (by omega)]
    have r := g1 x hx
    refine ⟨(((nrN t (x + 1)).length : Int), (x : Int) + 1, up u 226 x (-1)), ?_, rfl, by show (x : Int) + 1 = ((x + 1 : Nat) : Int); omega, ?_, ?_⟩
    · show m_order_9b ((nrN t x).length : Int) (x : Int) u = _
      unfold m_order_9b
      rw [gr (by omega), e161, gr (by omega), if_neg (by omega), gd_pos (by omega), Int.toNat_natCast, lt_eq, show up u 226 x (-1) 224 x = t 224 x by rw [up_ne (by omega)]; exact e224, gr (by omega), nrN_s]
      by_cases c : t 224 x = 0
      · rw [if_pos c, if_pos c, List.length_append]
        rfl
      · rw [if_neg c, if_neg c]
    · intro y hy
      show up u 226 x (-1) 226 y = -1
      by_cases e : y = x
      · rw [e, up_same]
      · rw [up_ne (by omega)]
        exact e3' y (by omega)
    · intro c k hc
      show up u 226 x (-1) c k = _
      rw [up_ne (by omega)]
      exact e4' c k hc) (by
    rintro ⟨v1, v2, u⟩ ⟨e1, e2, e3, e4⟩
    have e2' : v2 = (n : Int) := e2
    subst e2'
    have e4' : ∀ c k, c ≠ 226 → u c k = t1 c k := e4
    have e161 : u 121 161 = (n : Int) := by rw [e4' 121 161 (by omega), h1, up_ne (by omega)]; exact h161
    refine ⟨(v1, u), ?_, e1, e3, e4⟩
    show m_order_9b v1 (n : Int) u = _
    unfold m_order_9b
    rw [gr (by omega), e161, gr (by omega), if_pos (by omega)]) n 0 ((0 : Int), (0 : Int), t1) (by omega) ⟨rfl, rfl, fun y hy => absurd hy (Nat.not_lt_zero y), fun _ _ _ => rfl⟩
  obtain ⟨⟨al, t2⟩, l1, l2, l3, l4⟩ := L
  have l2' : al = ((nrN t n).length : Int) := l2
  have l3' : ∀ y, y < n → t2 226 y = -1 := l3
  have l4' : ∀ c k, c ≠ 226 → t2 c k = t1 c k := l4
  have R0 : ROd n t [] t2 := by
    refine ⟨⟨List.nodup_nil, fun z hz => (by cases hz), by rw [l4' 121 166 (by omega), h1, up_same]; rfl, fun j hj => absurd hj (Nat.not_lt_zero j)⟩, fun z z1 z2 => ⟨fun q => (by cases q), fun q => absurd (l3' z z1) q⟩, fun j hj => absurd hj (Nat.not_lt_zero j), fun x hx => (by cases hx), fun j hj => absurd hj (Nat.not_lt_zero j), fun c k q1 q2 q3 => ?_⟩
    rw [l4' c k q2, h1, up_ne (by omega)]
  obtain ⟨t', O', m1, m2, m3⟩ := ord_o hG0 (v1 := al) (n + 1) [] t2 (by show n < 0 + (n + 1); omega) R0
  have lO := ROd_len m2
  obtain ⟨⟨o1, o2, o3, o4⟩, o5, o6, o7, o8, o9⟩ := m2
  have mN : ∀ x, x ∈ nrN t n ↔ x < n ∧ t 224 x = 0 := fun x => by
    unfold nrN
    rw [List.mem_filter, List.mem_range]
    simp
  have ndN : (nrN t n).Nodup := by
    unfold nrN
    exact List.Sublist.nodup List.filter_sublist List.nodup_range
  have al' : O'.length = (nrN t n).length ↔ ∀ x, x < n → t 224 x = 0 → x ∈ O' := by
    rw [all_in o1 ndN (fun x hx => (mN x).mpr (o2 x hx))]
    exact ⟨fun q x x1 x2 => q x ((mN x).mpr ⟨x1, x2⟩), fun q x hx => q x ((mN x).mp hx).1 ((mN x).mp hx).2⟩
  have nl : (nrN t n).length ≤ n := by
    have := nodup_len (nrN t n) (List.range n) ndN (fun x hx => List.mem_range.mpr ((mN x).mp hx).1)
    rw [List.length_range] at this
    exact this
  refine ⟨t', O', if O'.length = (nrN t n).length then 1 else 0, ?_, ?_, ?_, o3, o4, ⟨o1, o2, o6, ?_, o7⟩, ?_, o9⟩
  · unfold m_order
    rw [lt_eq, ← h1]
    unfold m_order_9
    rw [show lp (L := Int × Int × iS) (E := Int × iS) (fun l => m_order_9b (l.1) (l.2.1) (l.2.2)) (0, 0, t1) = some (al, t2) from l1, bn]
    unfold m_order_47 m_order_49
    show (lp (L := Int × iS) (E := iS) (fun l => m_order_49b al (l.1) (l.2)) ((1 : Int), t2)).bind _ = _
    rw [m1, bn]
    unfold m_order_179
    rw [o3, gr (by omega), l2', gr (by omega)]
    by_cases c : O'.length = (nrN t n).length
    · rw [if_pos c, if_pos (by omega)]
    · rw [if_neg c, if_neg (by omega)]
  · split
    · exact Or.inr rfl
    · exact Or.inl rfl
  · rw [← al']
    split
    · exact ⟨fun _ => by assumption, fun _ => rfl⟩
    · exact ⟨fun q => absurd q (by decide), fun q => absurd q (by assumption)⟩
  · intro x x1 x2 hx
    by_cases m : x ∈ O'
    · exact m
    · obtain ⟨y, y1, y2⟩ := m3 x x1 x2 m
      exact absurd (hx y y1) y2
  · intro x hx
    obtain ⟨j, j1, j2⟩ := mem_gdN hx
    have := o8 j j1
    rw [j2] at this
    exact ⟨this.1, by omega⟩
end CKk
