/-! all commands of the reference are the class's -/
section CMc
variable {F : Nat → Int} {n N : Nat} {P : Nat → Nat} {s0 t0 t t' t'' : iS} {j u k x : Nat} {K : List Nat} {U : List urec} {W : List wrec} {Y : List Nat} {l l' : List (Int × Int × Int)} {A : List (List itm)} {I C p w : Nat}
/-- the columns of commands that can be read -/
def c4 (x : crec) : Int × Int × Int := (x.1, x.2.1, x.2.2.1)
theorem emA_c4 (xs : List crc) : ∀ a : List crec × Int, (emA a xs).1.map c4 = a.1.map c4 ++ xs.map c3 := by
  induction xs with
  | nil => intro a; rw [List.map_nil, List.append_nil]; rfl
  | cons y ys ih =>
    intro a
    show (emA (a.1 ++ [(y.1, y.2.1, y.2.2.1, y.2.2.2, a.2)], -1) ys).1.map c4 = _
    rw [ih]
    simp [c4, c3]
theorem emS_c4 (em : itm → List crc) (h : ∀ r, r.1 = 11 ∨ r.1 = 17 → em r = []) : ∀ (l : List itm) (a : List crec × Int), (l.foldl (emS P em) a).1.map c4 = a.1.map c4 ++ (l.flatMap em).map c3 := by
  intro l
  induction l with
  | nil => intro a; rw [List.flatMap_nil, List.map_nil, List.append_nil]; rfl
  | cons y ys ih =>
    intro a
    rw [List.foldl_cons, ih, List.flatMap_cons, List.map_append, ← List.append_assoc]
    unfold emS
    by_cases c : y.1 = 11 ∨ y.1 = 17
    · rw [if_pos c, h y c, List.map_nil, List.append_nil]
    · rw [if_neg c, emA_c4]
theorem rsv_c4 {st : Nat} {cs : List crec} : (rsv st cs).map c4 = cs.map c4 := by
  refine List.ext_getElem (by rw [List.length_map, List.length_map, rsv_len]) (fun i h1 h2 => ?_)
  rw [List.length_map] at h2
  rw [List.getElem_map, List.getElem_map]
  have e := rsv_at (st := st) h2
  rw [List.getD_eq_getElem?_getD, List.getElem?_eq_getElem (by rw [rsv_len]; exact h2), List.getD_eq_getElem?_getD, List.getElem?_eq_getElem h2] at e
  have e' : (rsv st cs)[i]'(by rw [rsv_len]; exact h2) = _ := e
  rw [e']
  split <;> rfl
theorem emI_no {wl : List wrec} {cv c : Nat} {so : Int} {r : itm} (h : r.1 = 11 ∨ r.1 = 17) : emI F P s0 t0 K U wl cv c so r = [] := by
  unfold emI
  rw [if_neg (by omega), if_neg (by omega), if_neg (by omega), if_neg (by omega), if_neg (by omega), if_neg (by omega), if_neg (by omega), if_neg (by omega), if_neg (by omega), if_neg (by omega), if_neg (by omega), if_neg (by omega), if_neg (by omega), if_neg (by omega), if_neg (by omega), if_neg (by omega), if_neg (by omega)]
def emU (F : Nat → Int) (P : Nat → Nat) (s0 t0 : iS) (K : List Nat) (U : List urec) (W : List wrec) (u : Nat) (r : itm) : List crc := emI F P s0 t0 K U (wlF U W u) (wlFc U W u).length (clF U u) (soF U u) r
theorem cmN_s {u : Nat} : (cmN F P s0 t0 K U W A (u + 1)).map c4 = (cmN F P s0 t0 K U W A u).map c4 ++ (hdrU K U (soF U u) (8 + (clF U u : Int)) (40 + (u : Int)) (nwV (u : Int) W) (nwF (clF U u : Int) W)).map c3 ++ ((A.getD u []).flatMap (emU F P s0 t0 K U W u)).map c3 := by
  show (cmU F P s0 t0 K U W u (A.getD u []) (cmN F P s0 t0 K U W A u)).map c4 = _
  unfold cmU
  rw [rsv_c4, emS_c4 _ (fun r hr => emI_no hr), emA_c4]
  rfl
theorem ITR_fm {r : itm} (h : ITR F P s0 t0 K U W u r t k) (hf : FM t t') : ITR F P s0 t0 K U W u r t' k := by
  have f : ∀ c k, c < 172 → c ≠ 121 → t' c k = t c k := fun c k q1 q2 => hf c k (by omega) (by omega) (by omega) (by omega)
  unfold ITR CR at h ⊢
  obtain ⟨a0, a1, a2, a3, a4, a5, a6, a7, a8⟩ := h
  refine ⟨by rw [f 144 k (by omega) (by omega)]; exact a0, a1, by rw [f 145 k (by omega) (by omega)]; exact a2, fun q => ?_, by rw [f 145 k (by omega) (by omega)]; exact a4, by rw [f 145 k (by omega) (by omega)]; exact a5, fun q => ?_, by rw [f 146 k (by omega) (by omega)]; exact a7, by rw [f 145 k (by omega) (by omega)]; exact a8⟩
  · obtain ⟨z, q', e1, e2, e3, e4, e5, e6⟩ := a3 q
    exact ⟨z, q', by rw [f 146 k (by omega) (by omega)]; exact e1, by rw [f 170 k (by omega) (by omega)]; exact e2, e3, e4, e5, fun i hi => by rw [f 171 _ (by omega) (by omega)]; exact e6 i hi⟩
  · obtain ⟨c, e1, e2, e3, e4, e5, e6⟩ := a6 q
    refine ⟨c, e1, by rw [f 145 k (by omega) (by omega)]; exact e2, ?_, by rw [f 151 c (by omega) (by omega)]; exact e4, e5, e6⟩
    rw [f 152 c (by omega) (by omega), f 153 c (by omega) (by omega), f 154 c (by omega) (by omega), f 155 c (by omega) (by omega)]
    exact e3
theorem RG_fm (h : RG F n N P s0 t0 K U W Y t) (hf : FM t t') : RG F n N P s0 t0 K U W Y t' := by
  obtain ⟨⟨h1, h2, h3, h4⟩, ⟨x1, x2, x3, x4, x5, x6, x7, x8, x9, x10, x11, x12, x13⟩, h6⟩ := h
  have e : ∀ c k, c < 172 → ¬ (c = 121 ∧ k = 76) → t' c k = t c k := fun c k q1 q2 => hf c k (by omega) (by omega) (by omega) q2
  refine ⟨⟨h1, h2, ?_, ?_⟩, ⟨?_, fun i hi => ?_, x3, ?_, fun i hi => ?_, x6, ?_, fun i hi => ?_, x9, ?_, fun q => ?_, fun c hc => ?_, fun u hu => ?_⟩, h6⟩
  · obtain ⟨a1, a2, a3, a4, a5, a6⟩ := h3
    refine ⟨?_, ?_, ?_, ?_, ?_, by rw [e 121 3 (by omega) (by omega)]; exact a6⟩
    · rw [← a1]; exact funext fun k => e 123 k (by omega) (by omega)
    · rw [← a2]; exact funext fun k => e 124 k (by omega) (by omega)
    · rw [← a3]; exact funext fun k => e 125 k (by omega) (by omega)
    · rw [← a4]; exact funext fun k => e 126 k (by omega) (by omega)
    · rw [← a5]; exact funext fun k => e 127 k (by omega) (by omega)
  · obtain ⟨b1, b2, b3⟩ := h4
    refine ⟨fun i hi => ?_, ?_, fun i hi => ?_⟩
    · rw [e 165 i (by omega) (by omega), e 164 i (by omega) (by omega)]; exact b1 i hi
    · rw [e 164 8 (by omega) (by omega)]; exact b2
    · rw [e 166 i (by omega) (by omega), e 167 i (by omega) (by omega), e 168 i (by omega) (by omega)]; exact b3 i hi
  · rw [e 121 14 (by omega) (by omega)]; exact x1
  · rw [e 128 i (by omega) (by omega)]; exact x2 i hi
  · rw [e 121 17 (by omega) (by omega)]; exact x4
  · rw [e 130 i (by omega) (by omega), e 131 i (by omega) (by omega), e 132 i (by omega) (by omega), e 133 i (by omega) (by omega)]; exact x5 i hi
  · rw [e 121 25 (by omega) (by omega)]; exact x7
  · rw [e 137 i (by omega) (by omega), e 138 i (by omega) (by omega), e 139 i (by omega) (by omega), e 140 i (by omega) (by omega), e 141 i (by omega) (by omega), e 142 i (by omega) (by omega), e 143 i (by omega) (by omega)]; exact x8 i hi
  · rw [e 121 16 (by omega) (by omega)]; exact x10
  · rw [e 121 60 (by omega) (by omega)]; exact x11 q
  · rw [e 129 c (by omega) (by omega)]; exact x12 c hc
  · rw [e 134 u (by omega) (by omega), e 135 u (by omega) (by omega)]; exact x13 u hu
end CMc
