/-! both machines: the relation -/
/-- a call that runs: sub, item, values of parameters and variables, values that wait, object -/
abbrev frm := Nat × Nat × List Int × List Int × List Int × Int
def preF (U : List urec) (f : frm) : List Int := if soF U f.1 = 3 then [f.2.2.2.2.2] else []
def csF (U : List urec) (f : frm) : List Int := preF U f ++ f.2.2.1 ++ f.2.2.2.1 ++ f.2.2.2.2.1
def csG (U : List urec) : List frm → List Int
  | [] => []
  | f :: g => csG U g ++ csF U f
def rsG : List frm → List Int
  | [] => []
  | f :: g => rsG g ++ f.2.2.2.2.1
section RNi
variable (F : Nat → Int) (P : Nat → Nat) (s0 t0 : iS) (K : List Nat) (U : List urec) (W : List wrec) (A : List (List itm))
def wsG : List frm → List Nat
  | [] => []
  | f :: g => wsG g ++ (aA F P s0 t0 K U W A f.1 f.2.1).2.1.reverse
/-- a call's own cells; g: the calls below it -/
def FV (s t : iS) (f : frm) (g : List frm) : Prop :=
  (f.1 < A.length ∧ f.2.1 < (A.getD f.1 []).length) ∧ (f.2.2.1.length = nwP (f.1 : Int) W ∧ f.2.2.2.1.length = nwV (f.1 : Int) W) ∧ ((∀ x ∈ f.2.2.1, w16 x) ∧ (∀ x ∈ f.2.2.2.1, w16 x) ∧ (∀ x ∈ f.2.2.2.2.1, w16 x) ∧ w16 f.2.2.2.2.2) ∧
  (∀ k, k < f.2.2.1.length → t 179 (24 * g.length + k) = f.2.2.1.getD k 0) ∧ (∀ k, k < f.2.2.2.1.length → t 179 (24 * g.length + 12 + k) = f.2.2.2.1.getD k 0) ∧ t 183 g.length = f.2.2.2.2.2 ∧ t 184 g.length = ((wsG F P s0 t0 K U W A g).length : Int) ∧
  (∀ f' g', g = f' :: g' → t 181 g.length = ((stA A f'.1 + f'.2.1 : Nat) : Int) ∧ s 53 (5 * g.length) = ((cpo F P s0 t0 K U W A f'.1 f'.2.1 : Nat) : Int) ∧ s 53 (5 * g.length + 1) = ((csG U g').length : Int) ∧ s 53 (5 * g.length + 2) = (((csG U g').length + (preF U f').length + f'.2.2.1.length : Nat) : Int) ∧ (soF U f'.1 ≠ 2 → s 53 (5 * g.length + 3) = f'.2.2.2.2.2) ∧ (∃ w ws, (aA F P s0 t0 K U W A f'.1 f'.2.1).2.1 = w :: ws ∧ s 53 (5 * g.length + 4) = (P w : Int)) ∧ f'.2.2.2.2.1.length + 1 = (aA F P s0 t0 K U W A f'.1 f'.2.1).1 ∧ (aA F P s0 t0 K U W A f'.1 f'.2.1).2.2.1 = true ∧ (aA F P s0 t0 K U W A f'.1 f'.2.1).2.2.2 = -1)
def GOK (s t : iS) : List frm → Prop
  | [] => True
  | f :: g => FV F P s0 t0 K U W A s t f g ∧ GOK s t g
/-- the cells of both programs -/
def PGM (t3 s t : iS) : Prop := (∃ m, CPG F P s0 t0 K U W A m s) ∧ (∀ c k, 128 ≤ c ∧ c ≤ 156 ∨ 169 ≤ c ∧ c ≤ 171 → t c k = t3 c k) ∧ RSY t
/-- what stands between items, apart from the item -/
def SIM (t3 : iS) (fu : Nat) (s t : iS) (f : frm) (g : List frm) : Prop :=
  PGM F P s0 t0 K U W A t3 s t ∧ GOK F P s0 t0 K U W A s t (f :: g) ∧ (STK s (csG U (f :: g)) ∧ RTK t (rsG (f :: g))) ∧
  (t 121 95 = ((wsG F P s0 t0 K U W A (f :: g)).length : Int) ∧ ∀ k, k < (wsG F P s0 t0 K U W A (f :: g)).length → t 185 k = (P ((wsG F P s0 t0 K U W A (f :: g)).getD k 0) : Int)) ∧
  (s 51 13 = ((g.length + 1 : Nat) : Int) ∧ t 121 88 = ((g.length + 1 : Nat) : Int) ∧ g.length + 1 ≤ 40 ∧ s 51 17 = t 121 89 ∧ 0 ≤ s 51 17 ∧ s 51 17 ≤ 40) ∧
  (s 51 8 = ((csG U g).length : Int) ∧ s 51 9 = (((csG U g).length + (preF U f).length + f.2.2.1.length : Nat) : Int) ∧ (soF U f.1 ≠ 2 → s 51 10 = f.2.2.2.2.2)) ∧
  (∀ k, k < 12 → s 54 k = t 178 k ∧ w16 (s 54 k)) ∧ (LB s t ∧ gO s t ∧ s 48 9 = 0 ∧ s 51 14 = -1) ∧
  (s 51 15 = (fu : Int) ∧ t 121 97 = (fu : Int) ∧ fu ≤ 5000 ∧ 0 ≤ s 51 16 ∧ t 121 96 ≤ (fu : Int) ∧ s 51 16 + (if (aA F P s0 t0 K U W A f.1 f.2.1).2.2.2 = -1 then 0 else 1) = t 121 96) ∧
  (t 121 98 = ((stA A f.1 + f.2.1 : Nat) : Int) ∧ s 51 7 = ((cpo F P s0 t0 K U W A f.1 f.2.1 : Nat) : Int)) ∧
  f.2.2.2.2.1.length = (aA F P s0 t0 K U W A f.1 f.2.1).1 ∧
  ((aA F P s0 t0 K U W A f.1 f.2.1).2.2.1 = true → (aA F P s0 t0 K U W A f.1 f.2.1).2.2.2 = -1 → ∃ w ws, (aA F P s0 t0 K U W A f.1 f.2.1).2.1 = w :: ws ∧ s 51 18 = (P w : Int))
/-- both have ended alike -/
def FIN (fu : Nat) (s t : iS) : Prop := (s 51 14 = t 121 99 ∧ 0 ≤ s 51 14 ∧ s 51 14 ≤ 3) ∧ LB s t ∧ s 51 16 = t 121 96 ∧ (0 ≤ s 51 16 ∧ s 51 16 ≤ (fu : Int)) ∧ s 51 17 = t 121 89 ∧ (0 ≤ s 51 17 ∧ s 51 17 ≤ 40) ∧ (s 51 14 ≠ 0 → 0 ≤ t 121 95 ∧ t 121 95 ≤ 1200 ∧ s 51 18 = (if t 121 95 ≤ 0 then t 121 74 else t 185 (t 121 95 - 1).toNat) ∧ 0 ≤ s 51 18 ∧ s 51 18 ≤ 100000)
/-- what remains: commands, items -/
def rmC : List frm → Nat
  | [] => 0
  | f :: g => ((cmN F P s0 t0 K U W A (f.1 + 1)).length - cpo F P s0 t0 K U W A f.1 f.2.1) + rmC g
def rmI : List frm → Nat
  | [] => 0
  | f :: g => ((A.getD f.1 []).length - f.2.1) + rmI g
/-- a step of both -/
def STP (t3 : iS) (fu : Nat) (s t : iS) (G : List frm) : Prop := ∃ (m : Nat) (s' t' : iS), TN m s s' ∧ m_run_141 t = m_run_141 t' ∧ (t 121 96 ≤ t' 121 96 ∧ t' 121 96 ≤ (fu : Int)) ∧
  ((∃ f g, SIM F P s0 t0 K U W A t3 fu s' t' f g ∧ (m : Int) + (rmC F P s0 t0 K U W A (f :: g) : Int) ≤ (rmC F P s0 t0 K U W A G : Int) + 3000 * (t' 121 96 - t 121 96) ∧ ((fu : Int) - t' 121 96) * 6000 + (rmI A (f :: g) : Int) < ((fu : Int) - t 121 96) * 6000 + (rmI A G : Int)) ∨
   (FIN fu s' t' ∧ t' 121 74 = t 121 74 ∧ (m : Int) ≤ (rmC F P s0 t0 K U W A G : Int) + 3000 * (t' 121 96 - t 121 96) + 3000))
end RNi
