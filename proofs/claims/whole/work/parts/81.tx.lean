/-! stepping by simp: gr, bs' are no rfl-rules; texts as lists of bytes; a common look-up -/
/-- the first of i .. i + k - 1 that is one; else i + k -/
def scn (P : Nat → Prop) [DecidablePred P] : Nat → Nat → Nat
  | i, 0 => i
  | i, k + 1 => if P i then i else scn P (i + 1) k
theorem scn_0 {P : Nat → Prop} [DecidablePred P] {i : Nat} : scn P i 0 = i := by simp only [scn]
theorem scn_s {P : Nat → Prop} [DecidablePred P] {i k : Nat} : scn P i (k + 1) = if P i then i else scn P (i + 1) k := by simp only [scn]
theorem scn_le {P : Nat → Prop} [DecidablePred P] : ∀ k i, i ≤ scn P i k ∧ scn P i k ≤ i + k
  | 0, i => by simp only [scn]; omega
  | k + 1, i => by
    simp only [scn]
    have := scn_le (P := P) k (i + 1)
    split <;> omega
theorem scn_not {P : Nat → Prop} [DecidablePred P] : ∀ k i j, i ≤ j → j < scn P i k → ¬ P j
  | 0, i, j, h1, h2 => by simp only [scn] at h2; omega
  | k + 1, i, j, h1, h2 => by
    simp only [scn] at h2
    split at h2
    · omega
    · rename_i h
      by_cases e : j = i
      · rw [e]; exact h
      · exact scn_not k (i + 1) j (by omega) h2
theorem scn_is {P : Nat → Prop} [DecidablePred P] : ∀ k i, scn P i k < i + k → P (scn P i k)
  | 0, i, h => by simp only [scn] at h; omega
  | k + 1, i, h => by
    simp only [scn] at h ⊢
    split
    · assumption
    · rename_i h0
      rw [if_neg h0] at h
      exact scn_is k (i + 1) (by omega)
theorem scn_eq {P P' : Nat → Prop} [DecidablePred P] [DecidablePred P'] : ∀ k i, (∀ j, i ≤ j → j < i + k → (P j ↔ P' j)) → scn P i k = scn P' i k
  | 0, i, h => rfl
  | k + 1, i, h => by
    simp only [scn]
    have h0 := h i (by omega) (by omega)
    rw [scn_eq k (i + 1) (fun j h1 h2 => h j (by omega) (by omega))]
    by_cases c : P i
    · rw [if_pos c, if_pos (h0.mp c)]
    · rw [if_neg c, if_neg (fun q => c (h0.mpr q))]
/-- where it stands: known by what lies before it and at it -/
theorem scn_at {P : Nat → Prop} [DecidablePred P] {k i m : Nat} (h1 : i ≤ m) (h2 : m ≤ i + k) (h3 : ∀ j, i ≤ j → j < m → ¬ P j) (h4 : m < i + k → P m) : scn P i k = m := by
  have a := scn_le (P := P) k i
  rcases Nat.lt_trichotomy (scn P i k) m with c | c | c
  · exact absurd (scn_is k i (by omega)) (h3 _ (by omega) c)
  · exact c
  · exact absurd (h4 (by omega)) (scn_not k i m h1 c)
/-- a loop that looks for the first -/
theorem lp_scn {P : Nat → Prop} [DecidablePred P] {L E : Type} {f : L → Option (L ⊕ E)} (mk : Nat → L) (fo : Nat → E) (eo : E) (n : Nat) (h : ∀ i, i < n → f (mk i) = if P i then some (.inr (fo i)) else some (.inl (mk (i + 1)))) (hn : f (mk n) = some (.inr eo)) : ∀ k i, i + k = n → lp f (mk i) = some (if scn P i k < n then fo (scn P i k) else eo)
  | 0, i, e => by
    have : i = n := by omega
    subst this
    rw [lp_end hn, scn_0, if_neg (by omega)]
  | k + 1, i, e => by
    have h0 := h i (by omega)
    rw [scn_s]
    by_cases c : P i
    · rw [if_pos c] at h0
      rw [if_pos c, lp_end h0, if_pos (by omega)]
    · rw [if_neg c] at h0
      rw [if_neg c, lp_next h0]
      exact lp_scn mk fo eo n h hn k (i + 1) (by omega)
theorem lp_sc1 {P : Nat → Prop} [DecidablePred P] {L E : Type} {f : L → Option (L ⊕ E)} (mk : Nat → L) (fo : Nat → E) (n : Nat) (h : ∀ i, i < n → f (mk i) = if P i then some (.inr (fo i)) else some (.inl (mk (i + 1)))) (hn : f (mk n) = some (.inr (fo n))) (i : Nat) (hi : i ≤ n) : lp f (mk i) = some (fo (scn P i (n - i))) := by
  rw [lp_scn mk fo (fo n) n h hn (n - i) i (by omega)]
  have := scn_le (P := P) (n - i) i
  by_cases c : scn P i (n - i) < n
  · rw [if_pos c]
  · rw [if_neg c, show scn P i (n - i) = n by omega]
/-- the bytes from st on, n of them -/
def bs (f : Nat → Int) (st n : Nat) : List Int := (List.range n).map (fun k => f (st + k))
section BS
variable {f g : Nat → Int} {st st' n m : Nat}
theorem bs_len : (bs f st n).length = n := by simp [bs]
theorem bs_at {k : Nat} (h : k < n) : (bs f st n)[k]? = some (f (st + k)) := by simp [bs, h]
theorem bs_get {k : Nat} (h : k < n) : (bs f st n).getD k 0 = f (st + k) := by
  rw [List.getD_eq_getElem?_getD, bs_at h]
  rfl
theorem bs_ext (h : ∀ k, k < n → f (st + k) = g (st' + k)) : bs f st n = bs g st' n := List.map_congr_left (fun k hk => h k (List.mem_range.mp hk))
theorem bs_mem {x : Int} (h : x ∈ bs f st n) : ∃ k, k < n ∧ x = f (st + k) := by
  obtain ⟨k, h1, h2⟩ := List.mem_map.mp h
  exact ⟨k, List.mem_range.mp h1, h2.symm⟩
theorem bs_eq {w : List Int} : bs f st n = w ↔ n = w.length ∧ ∀ k, k < n → f (st + k) = w.getD k 0 := by
  constructor
  · intro h
    subst h
    exact ⟨bs_len.symm, fun k hk => (bs_get hk).symm⟩
  · rintro ⟨h1, h2⟩
    refine List.ext_getElem? fun k => ?_
    by_cases hk : k < n
    · rw [bs_at hk, h2 k hk, List.getD_eq_getElem?_getD, List.getElem?_eq_getElem (by omega)]
      rfl
    · rw [List.getElem?_eq_none (by rw [bs_len]; omega), List.getElem?_eq_none (by omega)]
end BS
/-- the number of a word -/
def fw : List (List Int) → List Int → Nat → Int
  | [], _, _ => -1
  | w :: r, b, i => if w = b then (i : Int) else fw r b (i + 1)
theorem fw_0 {b : List Int} {i : Nat} : fw [] b i = -1 := by simp only [fw]
theorem fw_s {w b : List Int} {r : List (List Int)} {i : Nat} : fw (w :: r) b i = if w = b then (i : Int) else fw r b (i + 1) := by simp only [fw]
theorem fw_rg {b : List Int} : ∀ (r : List (List Int)) (i : Nat), fw r b i = -1 ∨ ((i : Int) ≤ fw r b i ∧ fw r b i < ((i + r.length : Nat) : Int))
  | [], i => Or.inl rfl
  | w :: r, i => by
    simp only [fw, List.length_cons]
    split
    · right; omega
    · rcases fw_rg r (i + 1) with h | h
      · left; exact h
      · right; omega
theorem fw_ap {b : List Int} : ∀ (r q : List (List Int)) (i : Nat), fw (r ++ q) b i = if fw r b i = -1 then fw q b (i + r.length) else fw r b i
  | [], q, i => by simp [fw]
  | w :: r, q, i => by
    rw [List.cons_append, fw_s, fw_s, List.length_cons]
    by_cases c : w = b
    · rw [if_pos c, if_pos c, if_neg (by omega)]
    · rw [if_neg c, if_neg c, fw_ap r q (i + 1), show i + 1 + r.length = i + (r.length + 1) by omega]
theorem fw_no {b : List Int} : ∀ (r : List (List Int)) (i : Nat), (∀ w ∈ r, w ≠ b) → fw r b i = -1
  | [], i, h => rfl
  | w :: r, i, h => by
    simp only [fw]
    rw [if_neg (h w (List.mem_cons_self ..))]
    exact fw_no r (i + 1) (fun w' h' => h w' (List.mem_cons_of_mem _ h'))
theorem fw_sh {b : List Int} : ∀ (r : List (List Int)) (i j : Nat), fw r b (i + j) = if fw r b j = -1 then -1 else (i : Int) + fw r b j
  | [], i, j => by rw [fw_0, fw_0, if_pos rfl]
  | w :: r, i, j => by
    rw [fw_s, fw_s]
    by_cases c : w = b
    · rw [if_pos c, if_pos c, if_neg (by omega)]; omega
    · rw [if_neg c, if_neg c, show i + j + 1 = i + (j + 1) by omega, fw_sh r i (j + 1)]
theorem fst_fw {P : Nat → Prop} [DecidablePred P] {b : List Int} : ∀ (r : List (List Int)) (i : Nat), (∀ j, j < r.length → (P (i + j) ↔ r.getD j [] = b)) → fst1 P i r.length = fw r b i
  | [], i, h => rfl
  | w :: r, i, h => by
    simp only [List.length_cons, fst1, fw]
    have h0 := h 0 (by simp)
    simp only [Nat.add_zero, List.getD_cons_zero] at h0
    rw [fst_fw r (i + 1) (fun j hj => by
      have := h (j + 1) (by simp only [List.length_cons]; omega)
      rw [List.getD_cons_succ] at this
      rw [show i + 1 + j = i + (j + 1) by omega]
      exact this)]
    by_cases c : P i
    · rw [if_pos c, if_pos (h0.mp c)]
    · rw [if_neg c, if_neg (fun q => c (h0.mpr q))]
/-- a word as two longs -/
def wH (b : List Int) : Int := nmH (fun i => b.getD i 0) b.length
def wL (b : List Int) : Int := nmL (fun i => b.getD i 0) b.length
def gw (w : List Int) : Prop := w.length ≤ 16 ∧ 0 < w.length ∧ ∀ x ∈ w, 0 < x ∧ x < 256
theorem gw_at {w : List Int} (h : ∀ x ∈ w, 0 < x ∧ x < 256) {i : Nat} (hi : i < w.length) : 0 < w.getD i 0 ∧ w.getD i 0 < 256 := by
  rw [List.getD_eq_getElem?_getD, List.getElem?_eq_getElem hi]
  exact h _ (List.getElem_mem hi)
theorem nm_list {b w : List Int} (hb : gw b) (hw : gw w) : (wH b = wH w ∧ wL b = wL w) ↔ w = b := by
  unfold wH wL
  rw [nm_inj hb.1 hw.1 (fun i hi => gw_at hb.2.2 hi) (fun i hi => gw_at hw.2.2 hi)]
  constructor
  · rintro ⟨h1, h2⟩
    refine List.ext_getElem? fun k => ?_
    by_cases hk : k < b.length
    · have := h2 k hk
      simp only [List.getD_eq_getElem?_getD] at this
      have e1 := List.getElem?_eq_getElem (l := w) (i := k) (by omega)
      have e2 := List.getElem?_eq_getElem (l := b) (i := k) hk
      rw [e1, e2] at this
      rw [e1, e2]
      exact congrArg some this.symm
    · rw [List.getElem?_eq_none (by omega), List.getElem?_eq_none (by omega)]
  · rintro rfl
    exact ⟨rfl, fun _ _ => rfl⟩
theorem nh_wH {f : Nat → Int} {st n : Nat} : nh f st (st + n) = wH (bs f st n) := by
  unfold nh wH nmH
  congr 2
  funext k
  simp only [pd, bs_len]
  by_cases h : k < n
  · rw [if_pos (by omega), if_pos h, bs_get h]
  · rw [if_neg (by omega), if_neg h]
theorem nh_wL {f : Nat → Int} {st n : Nat} : nh f (st + 8) (st + n) = wL (bs f st n) := by
  unfold nh wL nmL
  congr 2
  funext k
  simp only [pd, bs_len]
  by_cases h : 8 + k < n
  · rw [if_pos (by omega), if_pos h, bs_get h]
    congr 1
    omega
  · rw [if_neg (by omega), if_neg h]
theorem wH_lr {b : List Int} (h : ∀ x ∈ b, 0 < x ∧ x < 256) : lr (wH b) ∧ lr (wL b) := by
  have hp : ∀ i, 0 ≤ pd (fun i => b.getD i 0) b.length i ∧ pd (fun i => b.getD i 0) b.length i < 256 := pd_rg (fun i hi => by have := gw_at h hi; omega)
  exact ⟨sg_lr (p8_rg hp), sg_lr (p8_rg (fun i => hp (8 + i)))⟩
/-- the table of names in the rows a and b: the words of tab -/
def TB (c a b : Nat) (tab : List (List Int)) (s : iS) : Prop := s c 2 = (tab.length : Int) ∧ ∀ i, i < tab.length → s a i = wH (tab.getD i []) ∧ s b i = wL (tab.getD i [])
/-- the look-up by bytes of the tape -/
theorem findBytes_ok {c a b N : Nat} {s : iS} {tab : List (List Int)} (ht : TB c a b tab s) (hg : ∀ w ∈ tab, gw w) (hN : N < 1000000) (hm : tab.length ≤ N) (hb : ∀ k, 0 ≤ s 1 k ∧ s 1 k < 256) {f e : Nat} (hf : f ≤ 4000) (he : e ≤ 4000) : nam_findBytes c a b N (f : Int) (e : Int) s = some (fw tab (bs (s 1) f (e - f)) 0, s) := by
  have hno : ∀ x : List Int, ¬ gw x → fw tab x 0 = -1 := fun x hx => fw_no tab 0 (fun w hw q => hx (q ▸ hg w hw))
  unfold nam_findBytes
  rw [gr (by omega), if_neg (by omega), gr (by omega), if_neg (by omega)]
  by_cases h1 : e ≤ f
  · rw [if_pos (by omega), hno _ (fun q => by have := q.2.1; rw [bs_len] at this; omega)]
  rw [if_neg (by omega), gr (by omega)]
  by_cases h2 : e - f ≤ 16
  case neg => rw [if_neg (by omega), hno _ (fun q => by have := q.1; rw [bs_len] at this; omega)]
  rw [if_pos (by omega)]
  obtain ⟨n, rfl⟩ : ∃ n, e = f + n := ⟨e - f, by omega⟩
  rw [show f + n - f = n by omega] at *
  unfold nam_findBytes_28
  rw [lp_scn (P := fun i => s 1 i = 0) (fun i => ((i : Int), s)) (fun _ => Sum.inl s) (Sum.inr s) (f + n) (fun i hi => by
    have := hb i
    simp only [nam_findBytes_28b]
    rw [gr (by omega), gr (by omega), if_neg (by omega), gd_pos (by omega)]
    simp only [Int.toNat_natCast]
    rw [gr (by omega)]
    rfl) (by
    simp only [nam_findBytes_28b]
    rw [gr (by omega), gr (by omega), if_pos (by omega)]) n f rfl]
  rw [bn]
  by_cases h3 : scn (fun i => s 1 i = 0) f n < f + n
  · rw [if_pos h3]
    have h4 := scn_is (P := fun i => s 1 i = 0) n f h3
    have h5 := scn_le (P := fun i => s 1 i = 0) n f
    rw [hno _ (fun q => by
      have h6 := gw_at q.2.2 (i := scn (fun i => s 1 i = 0) f n - f) (by rw [bs_len]; omega)
      rw [bs_get (by omega), show f + (scn (fun i => s 1 i = 0) f n - f) = scn (fun i => s 1 i = 0) f n by omega, h4] at h6
      omega)]
    rfl
  · rw [if_neg h3]
    have h5 := scn_le (P := fun i => s 1 i = 0) n f
    have hw : gw (bs (s 1) f n) := by
      refine ⟨by rw [bs_len]; omega, by rw [bs_len]; omega, fun x hx => ?_⟩
      obtain ⟨k, hk, rfl⟩ := bs_mem hx
      have h6 := scn_not (P := fun i => s 1 i = 0) n f (f + k) (by omega) (by omega)
      have := hb (f + k)
      omega
    show nam_findBytes_49 c a b N (f : Int) ((f + n : Nat) : Int) s = _
    unfold nam_findBytes_49
    rw [half43_ok (by omega) (by omega) hb, bq, show (f : Int) + 8 = ((f + 8 : Nat) : Int) by omega, half43_ok (by omega) (by omega) hb, bq, nh_wH, nh_wL]
    have hl := wH_lr hw.2.2
    rw [ht.1, show (0 : Int) = ((0 : Nat) : Int) from rfl, find_ok hl.1 hl.2 hN ht.1 hm (by omega) (by omega) (fun i hi => by
      rw [(ht.2 i hi).1, (ht.2 i hi).2]
      have hj2 : tab.getD i [] = tab[i] := by rw [List.getD_eq_getElem?_getD, List.getElem?_eq_getElem hi]; rfl
      rw [hj2]
      exact wH_lr (hg _ (List.getElem_mem hi)).2.2), bq, show min tab.length tab.length - 0 = tab.length by omega]
    rw [fst_fw (b := bs (s 1) f n) tab 0 (fun j hj => by
      obtain ⟨q1, q2⟩ := ht.2 j hj
      have hj2 : tab.getD j [] = tab[j] := by rw [List.getD_eq_getElem?_getD, List.getElem?_eq_getElem hj]; rfl
      rw [Nat.zero_add, q1, q2]
      have := nm_list (b := bs (s 1) f n) (w := tab.getD j []) hw (by rw [hj2]; exact hg _ (List.getElem_mem hj))
      rw [← this]
      exact ⟨fun q => ⟨q.1.symm, q.2.symm⟩, fun q => ⟨q.1.symm, q.2.symm⟩⟩)]
