/-! signs: a computation's three pieces -/
def fx (f : Nat → Int) (c : Int) (a : Nat) : Nat → Int
  | 0 => -1
  | k + 1 => if fx f c a k = -1 then (if f (a + k) = c then (k : Int) else -1) else fx f c a k
theorem fx_sp {f : Nat → Int} {c : Int} {a : Nat} : ∀ k, (fx f c a k = -1 ∧ ∀ j, j < k → f (a + j) ≠ c) ∨ ∃ e : Nat, e < k ∧ fx f c a k = (e : Int) ∧ f (a + e) = c ∧ ∀ j, j < e → f (a + j) ≠ c
  | 0 => Or.inl ⟨rfl, fun j hj => by omega⟩
  | k + 1 => by
    simp only [fx]
    rcases fx_sp (f := f) (c := c) (a := a) k with ⟨h1, h2⟩ | ⟨e, h1, h2, h3, h4⟩
    · rw [if_pos h1]
      by_cases g : f (a + k) = c
      · rw [if_pos g]
        exact Or.inr ⟨k, by omega, rfl, g, h2⟩
      · rw [if_neg g]
        refine Or.inl ⟨rfl, fun j hj => ?_⟩
        by_cases q : j = k
        · rw [q]; exact g
        · exact h2 j (by omega)
    · rw [if_neg (by omega)]
      exact Or.inr ⟨e, by omega, h2, h3, h4⟩
theorem fx_eq {f g : Nat → Int} {c : Int} {a : Nat} : ∀ k, (∀ j, j < k → f (a + j) = g (a + j)) → fx f c a k = fx g c a k
  | 0, h => rfl
  | k + 1, h => by
    simp only [fx]
    rw [fx_eq k (fun j hj => h j (by omega)), h k (by omega)]
/-- none, or a place below L -/
def oN (E : Int) (L : Nat) : Prop := E = -1 ∨ ∃ e : Nat, e < L ∧ E = (e : Int)
theorem oN_rg {E : Int} {L : Nat} (h : oN E L) : -1 ≤ E ∧ E < (L : Int) := by
  rcases h with h | ⟨e, h1, h2⟩ <;> omega
section CP
variable {n m a k p : Nat} {own : List (List Int)} {s t : iS}
theorem pfx {c : Int} (hc : rg c) (hn : a + k ≤ 4000) (hb : BY (s 1)) : pro_find c (a : Int) ((a + k : Nat) : Int) s = some (if fx (s 1) c a k = -1 then -1 else (a : Int) + fx (s 1) c a k, s) := by
  rw [pfi_ok hc hn hb]
  rcases fx_sp (f := s 1) (c := c) (a := a) k with ⟨h1, h2⟩ | ⟨e, h1, h2, h3, h4⟩
  · have : scn (fun j => s 1 j = c) a k = a + k := scn_at (by omega) (by omega) (fun j j1 j2 q => h2 (j - a) (by omega) (by rw [show a + (j - a) = j by omega]; exact q)) (fun q => by omega)
    rw [this, if_neg (by omega), if_pos h1]
  · have : scn (fun j => s 1 j = c) a k = a + e := scn_at (by omega) (by omega) (fun j j1 j2 q => h4 (j - a) (by omega) (by rw [show a + (j - a) = j by omega]; exact q)) (fun _ => h3)
    rw [this, if_pos (by omega), if_neg (by omega), h2]
    rfl
def cD (T : Nat → Int) (p : Nat) (E : Int) : Int := if E = -1 then 0 else 1 + fw tD (bs T p E.toNat) 0
def cJ (T : Nat → Int) (p L : Nat) (Q : Int) : Int := if Q = -1 then 0 else 1 + fw tJ (bs T (p + Q.toNat + 1) (L - Q.toNat - 1)) 0
def cA (p : Nat) (E : Int) : Nat := p + (E + 1).toNat
def cB (p L : Nat) (Q : Int) : Nat := p + (if Q = -1 then L else Q.toNat)
def cC (T : Nat → Int) (p L : Nat) (E Q : Int) : Int := fw tC (bs T (cA p E) (cB p L Q - cA p E)) 0
def cW (T : Nat → Int) (p L : Nat) (E Q : Int) : Prop := cC T p L E Q = -1 ∨ (E ≠ -1 ∧ cD T p E = 0) ∨ (Q ≠ -1 ∧ cJ T p L Q = 0)
theorem tC_len : tC.length = 28 := rfl
theorem tD_len : tD.length = 7 := rfl
theorem tJ_len : tJ.length = 7 := rfl
theorem p107 (hb : BY (s 1)) (hF : FT s) {r1 r2 D J : Int} {cs ce : Nat} (h1 : rg r1) (h2 : rg r2) (hD : 0 ≤ D ∧ D ≤ 7) (hJ : 0 ≤ J ∧ J ≤ 7) (hcs : cs ≤ 4000) (hce : ce ≤ 4000) : (fw tC (bs (s 1) cs (ce - cs)) 0 = -1 ∨ (r1 ≠ -1 ∧ D = 0) ∨ (r2 ≠ -1 ∧ J = 0) → pro_readComputation_107 (p : Int) r1 r2 D J (ce : Int) (cs : Int) s = bd (pro_stopAt (p : Int) 1 s) (fun _ s1 => some (0, s1))) ∧ (¬ (fw tC (bs (s 1) cs (ce - cs)) 0 = -1 ∨ (r1 ≠ -1 ∧ D = 0) ∨ (r2 ≠ -1 ∧ J = 0)) → pro_readComputation_107 (p : Int) r1 r2 D J (ce : Int) (cs : Int) s = bd (pro_addWord (p : Int) (57344 + 64 * (ka_4 (fw tC (bs (s 1) cs (ce - cs)) 0).toNat).toInt + 8 * D + J) s) (fun _ s9 => some (0, s9))) := by
  have fr := fw_rg (b := bs (s 1) cs (ce - cs)) tC 0
  rw [tC_len] at fr
  unfold pro_readComputation_107
  rw [findBytes_ok hF.1 tC_gw (by omega) (by rw [tC_len]; omega) hb hcs hce, bq]
  generalize fw tC (bs (s 1) cs (ce - cs)) 0 = C at fr
  constructor
  · intro w
    by_cases c1 : r1 = -1 <;> by_cases c2 : D = 0 <;> by_cases c3 : r2 = -1 <;> by_cases c4 : J = 0 <;> by_cases c5 : C = -1 <;> first | (exfalso; omega) | simp (disch := omega) only [pro_readComputation_126, pro_readComputation_127, pro_readComputation_144, pro_readComputation_145, pro_readComputation_172, gr, if_pos, if_neg, if_true, if_false]
  · intro w
    by_cases c1 : r1 = -1 <;> by_cases c2 : D = 0 <;> by_cases c3 : r2 = -1 <;> by_cases c4 : J = 0 <;> first | (exfalso; omega) | simp (disch := omega) only [pro_readComputation_126, pro_readComputation_127, pro_readComputation_144, pro_readComputation_145, pro_readComputation_172, gr, gd_pos, if_pos, if_neg, if_true, if_false]
theorem cD_rg (T : Nat → Int) (p : Nat) (E : Int) : 0 ≤ cD T p E ∧ cD T p E ≤ 7 := by
  unfold cD
  have fr := fw_rg (b := bs T p E.toNat) tD 0
  rw [tD_len] at fr
  by_cases c : E = -1
  · rw [if_pos c]; omega
  · rw [if_neg c]; omega
theorem cJ_rg (T : Nat → Int) (p L : Nat) (Q : Int) : 0 ≤ cJ T p L Q ∧ cJ T p L Q ≤ 7 := by
  unfold cJ
  have fr := fw_rg (b := bs T (p + Q.toNat + 1) (L - Q.toNat - 1)) tJ 0
  rw [tJ_len] at fr
  by_cases c : Q = -1
  · rw [if_pos c]; omega
  · rw [if_neg c]; omega
theorem prc_ok (hb : BY (s 1)) (hF : FT s) {L : Nat} (hL : p + L ≤ 4000) : ∃ E Q : Int, E = fx (s 1) 61 p L ∧ Q = fx (s 1) 59 p L ∧ (cW (s 1) p L E Q → pro_readComputation (p : Int) ((p + L : Nat) : Int) s = bd (pro_stopAt (p : Int) 1 s) (fun _ s1 => some (0, s1))) ∧ (¬ cW (s 1) p L E Q → pro_readComputation (p : Int) ((p + L : Nat) : Int) s = bd (pro_addWord (p : Int) (57344 + 64 * (ka_4 (cC (s 1) p L E Q).toNat).toInt + 8 * cD (s 1) p E + cJ (s 1) p L Q) s) (fun _ s9 => some (0, s9))) := by
  refine ⟨_, _, rfl, rfl, ?_⟩
  have x1 := fx_sp (f := s 1) (c := 61) (a := p) L
  have x2 := fx_sp (f := s 1) (c := 59) (a := p) L
  unfold pro_readComputation
  rw [pfx (by decide) hL hb, bq, pfx (by decide) hL hb, bq]
  generalize fx (s 1) 61 p L = E at x1
  generalize fx (s 1) 59 p L = Q at x2
  have rE : oN E L := x1.imp (fun z => z.1) (fun ⟨e, z1, z2, _⟩ => ⟨e, z1, z2⟩)
  have rQ : oN Q L := x2.imp (fun z => z.1) (fun ⟨e, z1, z2, _⟩ => ⟨e, z1, z2⟩)
  clear x1 x2
  have dr := cD_rg (s 1) p E
  have jr := cJ_rg (s 1) p L Q
  -- the three look-ups
  have key : ∀ r1 r2 : Int, r1 = (if E = -1 then -1 else (p : Int) + E) → r2 = (if Q = -1 then -1 else (p : Int) + Q) → gd (rg r1) (if r1 = (-1) then pro_readComputation_43 (p : Int) ((p + L : Nat) : Int) r1 r2 0 s else bd (nam_findBytes 59 60 61 7 (p : Int) r1 s) (fun r5 s5 => pro_readComputation_43 (p : Int) ((p + L : Nat) : Int) r1 r2 (1 + r5) s5)) = pro_readComputation_107 (p : Int) r1 r2 (cD (s 1) p E) (cJ (s 1) p L Q) ((cB p L Q : Nat) : Int) ((cA p E : Nat) : Int) s := by
    intro r1 r2 h1 h2
    have k43 : ∀ D : Int, pro_readComputation_43 (p : Int) ((p + L : Nat) : Int) r1 r2 D s = pro_readComputation_73 (p : Int) ((p + L : Nat) : Int) r1 r2 D (cJ (s 1) p L Q) s := by
      intro D
      unfold pro_readComputation_43 cJ
      rcases rQ with rQ | ⟨e, e1, rQ⟩
      · rw [if_pos rQ] at h2
        rw [h2, gr (by omega), if_pos rfl, if_pos rQ]
      · rw [if_neg (by omega), rQ] at h2
        have ee : (e : Int).toNat = e := by omega
        rw [h2, gr (by omega), if_neg (by omega), if_neg (by omega), rQ, ee, show (p : Int) + (e : Int) + 1 = ((p + e + 1 : Nat) : Int) by omega, findBytes_ok hF.2.2 tJ_gw (by omega) (by rw [tJ_len]; omega) hb (by omega) (by omega), bq, show p + L - (p + e + 1) = L - e - 1 by omega]
    have k73 : ∀ D J : Int, pro_readComputation_73 (p : Int) ((p + L : Nat) : Int) r1 r2 D J s = pro_readComputation_107 (p : Int) r1 r2 D J ((cB p L Q : Nat) : Int) ((cA p E : Nat) : Int) s := by
      intro D J
      unfold pro_readComputation_73 pro_readComputation_95 cA cB
      rcases rE with rE | ⟨e, e1, rE⟩ <;> rcases rQ with rQ | ⟨q, q1, rQ⟩
      · rw [if_pos rE] at h1
        rw [if_pos rQ] at h2
        rw [h1, h2, gr (by omega), if_pos rfl, gr (by omega), if_pos rfl, if_pos rQ, rE]
        rfl
      · rw [if_pos rE] at h1
        rw [if_neg (by omega)] at h2
        rw [h1, h2, gr (by omega), if_pos rfl, gr (by omega), if_neg (by omega), if_neg (by omega), rE, rQ]
        rfl
      · rw [if_neg (by omega)] at h1
        rw [if_pos rQ] at h2
        rw [h1, h2, gr (by omega), if_neg (by omega), gr (by omega), if_pos rfl, if_pos rQ, rE]
        congr 1
      · rw [if_neg (by omega)] at h1
        rw [if_neg (by omega)] at h2
        rw [h1, h2, gr (by omega), if_neg (by omega), gr (by omega), if_neg (by omega), if_neg (by omega), rE, rQ]
        congr 1
    rcases rE with rE | ⟨e, e1, rE⟩
    · rw [if_pos rE] at h1
      rw [gr (by omega), if_pos h1, k43, k73]
      unfold cD
      rw [if_pos rE]
    · rw [if_neg (by omega)] at h1
      rw [gr (by omega), if_neg (by omega)]
      have ee : (e : Int).toNat = e := by omega
      have : nam_findBytes 59 60 61 7 (p : Int) r1 s = some (fw tD (bs (s 1) p e) 0, s) := by
        rw [h1, rE, show (p : Int) + (e : Int) = ((p + e : Nat) : Int) by omega, findBytes_ok hF.2.1 tD_gw (by omega) (by rw [tD_len]; omega) hb (by omega) (by omega), show p + e - p = e by omega]
      rw [this, bq, k43, k73]
      unfold cD
      rw [if_neg (by omega), rE, ee]
  rw [key _ _ rfl rfl]
  have rE' := oN_rg rE
  have rQ' := oN_rg rQ
  clear key
  have hA : cA p E ≤ 4000 := by unfold cA; omega
  have hB : cB p L Q ≤ 4000 := by unfold cB; split <;> omega
  have r1 : rg (if E = -1 then -1 else (p : Int) + E) := by split <;> exact ⟨by omega, by omega⟩
  have r2 : rg (if Q = -1 then -1 else (p : Int) + Q) := by split <;> exact ⟨by omega, by omega⟩
  have E1 : (if E = -1 then -1 else (p : Int) + E) ≠ -1 ↔ E ≠ -1 := by split <;> omega
  have Q1 : (if Q = -1 then -1 else (p : Int) + Q) ≠ -1 ↔ Q ≠ -1 := by split <;> omega
  have F := p107 (p := p) hb hF r1 r2 dr jr hA hB
  rw [E1, Q1] at F
  exact F
end CP
