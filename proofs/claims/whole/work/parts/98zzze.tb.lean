/-! the tokens of the items of all subs -/
section ITt
variable {s0 t : iS} {g o p w p' w' n I C lb lb' N : Nat} {l l1 l2 : List itm} {K : List Nat} {U : List urec} {W : List wrec} {A : List (List itm)}
theorem ITl_let {lo hi j : Nat} {b c : Int} (h : ITl s0 lo hi l) (hr : ∃ r ∈ l, (r.1 = 4 ∨ r.1 = 13) ∧ r.2.2.2 = (j : Int) + 1) (h1 : lo ≤ j := by omega) (h2 : j < hi := by omega) : ITl s0 lo hi ([((11, b, c, (j : Int)) : itm)] ++ l) := by
  obtain ⟨r0, m0, k0, e0⟩ := hr
  have up : ∀ r ∈ l, r ∈ [((11, b, c, (j : Int)) : itm)] ++ l := fun r hr => List.mem_append_right _ hr
  have sp : ∀ r ∈ [((11, b, c, (j : Int)) : itm)] ++ l, r = (11, b, c, (j : Int)) ∨ r ∈ l := fun r hr => (List.mem_append.mp hr).imp (fun z => List.mem_singleton.mp z) id
  refine ⟨fun r hr => ?_, fun r hr q => ?_, fun r hr q => ?_, fun r hr q q2 => ?_⟩
  · rcases sp r hr with z | z
    · rw [z]
      exact ⟨by simp, fun q => by simp at q, fun q => by simp at q, fun _ => ⟨j, rfl, h1, h2⟩, fun q => by simp at q, fun q => by simp at q, fun q => by simp at q⟩
    · exact h.1 r z
  · rcases sp r hr with z | z
    · rw [z] at q; simp at q
    · obtain ⟨m, e⟩ := h.2.1 r z q
      exact ⟨m, up _ e⟩
  · rcases sp r hr with z | z
    · rw [z] at q; simp at q
    · exact up _ (h.2.2.1 r z q)
  · rcases sp r hr with z | z
    · rw [z]; exact ⟨r0, up _ m0, k0, e0⟩
    · obtain ⟨r', e1, e2⟩ := h.2.2.2 r z q q2
      exact ⟨r', up _ e1, e2⟩
theorem GY_it (h : GY s0 t g o I p w lb p' w' lb' l) : p ≤ p' ∧ ITl s0 p p' l := by
  refine h (fun g o I p w lb p' w' lb' l => p ≤ p' ∧ ITl s0 p p' l) ⟨?_, ?_, ?_, ?_, ?_, ?_, ?_, ?_, ?_, ?_⟩
  · intro o I p w lb p' w' l j h1 h2 h3
    obtain ⟨x, y, z⟩ := GX_it h3
    refine ⟨by omega, ITl_let ?_ ⟨(13, 0, 0, ((p + 1 : Nat) : Int)), by simp, Or.inr rfl, by show ((p + 1 : Nat) : Int) = _; omega⟩⟩
    exact ITl_app (ITl_mono z (by omega) (by omega)) (ITl_app (l1 := [(13, 0, 0, ((p + 1 : Nat) : Int))]) (l2 := [(12, 0, 0, j)]) (ITl_nm (Or.inr ⟨Or.inr rfl, h2⟩) (by omega) (by omega)) (ITl_pl (by simp) (by simp)))
  · intro o I p w lb p1 w1 p2 w2 l1 l2 j j1 j2 h1 h2 h3 h4
    obtain ⟨x, y, z⟩ := GX_it h3
    obtain ⟨x', y', z'⟩ := GX_it h4
    refine ⟨by omega, ITl_let ?_ ⟨(4, 0, 0, ((p + 1 : Nat) : Int)), by simp, Or.inl rfl, by show ((p + 1 : Nat) : Int) = _; omega⟩⟩
    exact ITl_app (ITl_nm (Or.inr ⟨Or.inl rfl, h2⟩) (by omega) (by omega)) (ITl_app (ITl_mono z (by omega) (by omega)) (ITl_app (ITl_pl (by simp) (by simp)) (ITl_app (ITl_mono z' (by omega) (by omega)) (ITl_app (l1 := [(14, 0, 0, j1)]) (l2 := [(12, 0, 0, j2)]) (ITl_pl (by simp) (by simp)) (ITl_pl (by simp) (by simp))))))
  · intro o I p w lb p' w' l j1 j2 h1 h2
    obtain ⟨x, y, z⟩ := GX_it h2
    exact ⟨by omega, ITl_app (ITl_11 h1) (ITl_app (ITl_mono z (by omega) (by omega)) (ITl_app (ITl_pl (by simp) (by simp)) (ITl_pl (by simp) (by simp))))⟩
  · intro o I p w lb j1 j2 h1
    exact ⟨by omega, ITl_app (ITl_11 h1) (ITl_app (ITl_pl (by simp) (by simp)) (ITl_pl (by simp) (by simp)))⟩
  · intro o I p w lb p' w' l j h1 h2
    obtain ⟨x, y, z⟩ := GX_it h2
    exact ⟨by omega, ITl_app (ITl_11 h1) (ITl_app (ITl_mono z (by omega) (by omega)) (ITl_pl (by simp) (by simp)))⟩
  · intro o I p w lb p1 w1 p2 w2 lb2 l1 l2 j0 j1 j2 h1 h2 ⟨x', z'⟩ _
    obtain ⟨x, y, z⟩ := GX_it h2
    exact ⟨by omega, ITl_app (ITl_app (ITl_app (ITl_app (ITl_app (ITl_11 h1.1) (ITl_mono z (by omega) (by omega))) (ITl_pl (by simp) (by simp))) (ITl_mono z' (by omega) (by omega))) (ITl_pl (by simp) (by simp))) (ITl_pl (by simp) (by simp))⟩
  · intro o I p w lb p1 w1 p2 w2 lb2 p3 w3 lb3 l1 l2 l3 j0 j1 j2 j3 j4 h1 h2 ⟨x', z'⟩ ⟨x'', z''⟩ _ _
    obtain ⟨x, y, z⟩ := GX_it h2
    exact ⟨by omega, ITl_app (ITl_app (ITl_app (ITl_app (ITl_app (ITl_app (ITl_app (ITl_app (ITl_11 h1.1) (ITl_mono z (by omega) (by omega))) (ITl_pl (by simp) (by simp))) (ITl_mono z' (by omega) (by omega))) (ITl_pl (by simp) (by simp))) (ITl_pl (by simp) (by simp))) (ITl_mono z'' (by omega) (by omega))) (ITl_pl (by simp) (by simp))) (ITl_pl (by simp) (by simp))⟩
  · intro o I p w lb p1 w1 p2 w2 lb2 l1 l2 j0 j1 x0 j2 j3 j4 h1 h2 ⟨x', z'⟩ _ _
    obtain ⟨x, y, z⟩ := GX_it h2
    exact ⟨by omega, ITl_app (ITl_app (ITl_app (ITl_app (ITl_app (ITl_app (ITl_app (ITl_app (ITl_11 h1.1) (ITl_pl (by simp) (by simp))) (ITl_17 (by omega) (by omega))) (ITl_mono z (by omega) (by omega))) (ITl_pl (by simp) (by simp))) (ITl_mono z' (by omega) (by omega))) (ITl_pl (by simp) (by simp))) (ITl_pl (by simp) (by simp))) (ITl_pl (by simp) (by simp))⟩
  · intro o I p w lb
    exact ⟨by omega, fun r hr => by simp at hr, PRl_nil⟩
  · intro o I p w lb p1 w1 lb1 p2 w2 lb2 l1 l2 ⟨x, z⟩ ⟨x', z'⟩
    exact ⟨by omega, ITl_app (ITl_mono z (by omega) (by omega)) (ITl_mono z' (by omega) (by omega))⟩
theorem stA_s {u : Nat} (hu : u < A.length) : stA A (u + 1) = stA A u + (A.getD u []).length := by
  unfold stA
  rw [List.take_succ_eq_append_getElem hu, List.map_append, List.sum_append, List.getD_eq_getElem?_getD, List.getElem?_eq_getElem hu]
  simp
theorem stA_dec {k : Nat} : ∀ m, m ≤ A.length → k < stA A m → ∃ u i, u < m ∧ i < (A.getD u []).length ∧ k = stA A u + i
  | 0, _, h => by simp [stA] at h
  | m + 1, hm, h => by
    rw [stA_s hm] at h
    by_cases c : k < stA A m
    · obtain ⟨u, i, a, b, d⟩ := stA_dec m (by omega) c
      exact ⟨u, i, by omega, b, d⟩
    · exact ⟨m, k - stA A m, by omega, by omega, by omega⟩
theorem cs_dec {cs : Nat → Nat} {c : Nat} (h0 : cs 0 = 0) : ∀ m, c < cs m → ∃ u, u < m ∧ cs u ≤ c ∧ c < cs (u + 1)
  | 0, h => by omega
  | m + 1, h => by
    by_cases d : c < cs m
    · obtain ⟨u, a, b⟩ := cs_dec h0 m d
      exact ⟨u, by omega, b⟩
    · exact ⟨m, by omega, by omega, h⟩
/-- the rows of a call are those of an item -/
def CI (t : iS) (c u : Nat) (r : itm) : Prop := r.1 = 10 ∧ t 149 c = r.2.1 ∧ t 150 c = r.2.2.1 ∧ t 151 c = r.2.2.2 ∧ t 156 c = (u : Int)
theorem AOK_it (h : AOK s0 K U W A t I C p w) : ∃ pf : Nat → Nat, (∀ u, u < A.length → ∀ r ∈ W, r.2.1 = -1 → r.1 = (uAt U u).1 → r.2.2.2.2.1 < pf u) ∧ (∀ u, u < A.length → ITl s0 (pf u) p (A.getD u [])) ∧ (∀ k, k < I → ∃ u i, u < A.length ∧ i < (A.getD u []).length ∧ k = stA A u + i) ∧ (∀ u i, u < A.length → i < (A.getD u []).length → stA A u + i < I ∧ IM t (stA A u + i) (u : Int) 0 C ((A.getD u []).getD i (0, 0, 0, 0))) ∧ (∀ c, c < C → ∃ u r, u < A.length ∧ r ∈ A.getD u [] ∧ CI t c u r) ∧ (∀ u r, u < A.length → r ∈ A.getD u [] → r.1 = 10 → ∃ c, c < C ∧ CI t c u r) := by
  obtain ⟨h1, w1, ⟨w2', w3'⟩, cs, pf, wf, c0, c1, c2, c3, c4, h2⟩ := h
  have mono : ∀ m u, u + m = A.length → pf u ≤ p := by
    intro m
    induction m with
    | zero => intro u e; rw [show u = A.length by omega]; exact c3
    | succ m ih =>
      intro u e
      obtain ⟨_, _, _, _, _, l, j, pb, wb, pe, we, lb, b1, b2, b3, b4, b5, b6⟩ := h2 u (by omega)
      have := (GY_it b6).1
      have := ih (u + 1) (by omega)
      omega
  have csC : ∀ u, u < A.length → cs (u + 1) ≤ C := fun u hu => (h2 u hu).2.2.2.1
  have im : ∀ u i, u < A.length → i < (A.getD u []).length → stA A u + i < I ∧ IM t (stA A u + i) (u : Int) (cs u) (cs (u + 1)) ((A.getD u []).getD i (0, 0, 0, 0)) := fun u i hu hi => by
    obtain ⟨_, a2, _, _, a5, _⟩ := h2 u hu
    exact ⟨by omega, a5.1 i hi⟩
  have ci : ∀ u i, u < A.length → i < (A.getD u []).length → ((A.getD u []).getD i (0, 0, 0, 0)).1 = 10 → ∃ c, c < C ∧ t 145 (stA A u + i) = (c : Int) ∧ CI t c u ((A.getD u []).getD i (0, 0, 0, 0)) := fun u i hu hi h10 => by
    obtain ⟨_, _, _, a4⟩ := im u i hu hi
    rcases a4 with ⟨_, c, d1, d2, d3, d4, d5, d6, d7⟩ | ⟨_, z, _⟩
    · exact ⟨c, by have := csC u hu; omega, d3, h10, d4, d5, d7 h10, d6⟩
    · exact absurd h10 z
  refine ⟨pf, c0, fun u hu => ?_, fun k hk => stA_dec A.length (Nat.le_refl _) (by omega), fun u i hu hi => ?_, fun c hc => ?_, fun u r hu hr h10 => ?_⟩
  · obtain ⟨_, _, _, _, _, l, j, pb, wb, pe, we, lb, b1, b2, b3, b4, b5, b6⟩ := h2 u hu
    have e := (GY_it b6)
    have := mono (A.length - (u + 1)) (u + 1) (by omega)
    rw [b1]
    exact ITl_app (ITl_mono e.2 (by omega) (by omega)) (ITl_app (l1 := [(0, 0, 0, j)]) (l2 := [(18, 1, 0, j)]) (ITl_pl (by simp) (by simp)) (ITl_pl (by simp) (by simp)))
  · obtain ⟨a1, a2⟩ := im u i hu hi
    exact ⟨a1, IM_of a2 (fun _ _ _ => rfl) (fun _ _ _ _ _ _ => rfl) (by omega) (csC u hu)⟩
  · obtain ⟨u, d1, d2, d3⟩ := cs_dec (c := c) c1 A.length (by omega)
    obtain ⟨i, e1, e2, e3⟩ := (h2 u d1).2.2.2.2.1.2 c d2 d3
    obtain ⟨c', f1, f2, f3⟩ := ci u i d1 e1 e2
    have : c' = c := by rw [e3] at f2; omega
    rw [this] at f3
    exact ⟨u, _, d1, gd_mem e1, f3⟩
  · obtain ⟨i, hi, e⟩ := List.getElem_of_mem hr
    have e' : (A.getD u []).getD i (0, 0, 0, 0) = r := by
      rw [List.getD_eq_getElem?_getD, List.getElem?_eq_getElem hi]
      exact e
    obtain ⟨c', f1, f2, f3⟩ := ci u i hu hi (by rw [e']; exact h10)
    rw [e'] at f3
    exact ⟨c', f1, f3⟩
end ITt
