/-! chips: links are checked by the reference: left sides -/
section CIq
variable {F : Nat → Int} {n N : Nat} {P : Nat → Nat} {s0 t0 s t s' t' : iS} {C : List chR} {O E I : List Nat} {Q : List (Nat × Int)} {R L : List (Nat × Nat)} {c b i j k q r l : Nat} {Z : List Nat} {T : List tEn} {out w : Int}
theorem KR_n (h : KR s0 t0 C Q R L I t) (hf : ∀ c k, ¬ (c = 121 ∧ (k = 69 ∨ k = 70)) → c ≠ 217 → t' c k = t c k) : KR s0 t0 C Q R L I t' := KR_of h (fun c k z => hf c k (by omega) (by omega))
/-- the reference: a link -/
theorem r_link (h : TKH F n N P s0 t0) (hs : KHS F P s0 t0 N C O Q R L E I) (hr : KR s0 t0 C Q R L I t) (hb : RBc P N Z t) (hcl : c < C.length) (hrr : (hAt C Q R I c).2.2.1 ≤ r ∧ r < (hAt C Q R I (c + 1)).2.2.1) (hl : (R.getD r (0, 0)).2 ≤ l ∧ l < E.getD r 0) (hi : i < 2 + C.length) (hT : TOK F P s0 t0 N C Q R L I c b T) (hI : IRr F P t0 C Q R I c T t) (hIL : ILr F P t0 C Q R I c T l t) {mi mo : Nat → Int} (hmi : MIr C Q R I i mi t) (hmo : MOr C Q R I c mo t) : ∃ t', m_checkLinks_100b (c : Int) (r : Int) (i : Int) (l : Int) t = some (.inl (((l + 1 : Nat) : Int), t')) ∧ RBc P N (Z ++ yK F P s0 t0 C O Q R L I c i l T mi mo) t' ∧ MIr C Q R I i (mL F P s0 t0 C O Q R L I i l mi) t' ∧ MOr C Q R I c (mK F P s0 t0 C O Q R L I c i l mo) t' ∧ (∀ x, (hAt C Q R I c).2.2.2 ≤ x → x < (hAt C Q R I (c + 1)).2.2.2 → t' 215 x = if gvT F P s0 t0 C O Q R L I c i l ∧ nmT F P t0 (I.getD x 0) = nmT F P t0 (lR L l) then 1 else t 215 x) ∧ (∀ c' k, ¬ (c' = 121 ∧ (k = 69 ∨ k = 70)) → ¬ (c' = 215 ∧ (hAt C Q R I c).2.2.2 ≤ k ∧ k < (hAt C Q R I (c + 1)).2.2.2) → c' ≠ 217 → c' ≠ 218 → t' c' k = t c' k) := by
  have hN := N2001 h.1
  have n4 := h.2.2.1
  have bd' := KHS_bd hs
  have rq := (KHS_q hs (c := c + 1) (by omega)).2.1
  obtain ⟨-, -, -, -, p, -, -, -⟩ := KHS_c hs hcl
  obtain ⟨-, -, le, g⟩ := p r hrr.1 hrr.2
  obtain ⟨⟨lo1, lo2, lo3, lo4, lo5⟩, -⟩ := g l hl.1 hl.2
  have lx : l < L.length := by omega
  obtain ⟨⟨r1, r2, r3, r4⟩, -, -, -⟩ := hr.2.1.2.2.2.1.2 l lx
  have lLd : (L.getD l (0, 0)).1 = lL L l := rfl
  rw [lLd] at lo1 lo2 lo3 r1 r2 r3 r4
  obtain ⟨-, e203⟩ := KR_e hs hr (r := r) (by omega)
  have sv : (l : Int) + 1 = ((l + 1 : Nat) : Int) := by omega
  have j1 := lo3.1
  unfold m_checkLinks_100b
  rw [gd_pos (by omega), gr (by omega), show ((r : Int) + 1).toNat = r + 1 by omega, e203, gr (by omega), if_neg (by omega), gd_pos (by omega), Int.toNat_natCast, r1]
  have rp := r_pin h hs hr ⟨lo1, lo2⟩ hi
  rcases pfI_rg (j := lL L l) hs hi with z | ⟨k, z1, z2, z3, z4⟩
  · have ek : kL F P t0 C Q R L I i l = -1 := z
    have ex : yK F P s0 t0 C O Q R L I c i l T mi mo = [16 * lL L l + 4] := by unfold yK; rw [if_pos ek]
    have em : mK F P s0 t0 C O Q R L I c i l mo = mo := by unfold mK; rw [if_pos ek]
    have em2 : mL F P s0 t0 C O Q R L I i l mi = mi := by unfold mL; rw [if_neg (fun y => y.2.1 ek)]
    obtain ⟨t1, a1, a2, a3⟩ := note_c (f := 4) (j := lL L l) h.1 n4 hr.1 hb (by omega) lo1
    rw [z, if_pos rfl] at rp
    rw [rp, bq, gr (by omega), if_pos rfl, r1, show (4 : Int) = ((4 : Nat) : Int) from rfl, a1, bq, ex, em, em2, sv]
    exact ⟨t1, rfl, a2, fun k k1 k2 => by rw [a3 217 _ (by omega)]; exact hmi k k1 k2, fun q q1 q2 => by rw [a3 218 q (by omega)]; exact hmo q q1 q2, fun x x1 x2 => by rw [if_neg (fun y => y.1.1 z), a3 215 x (by omega)], fun c' k y1 y2 y3 y4 => a3 c' k y1⟩
  have ek : kL F P t0 C Q R L I i l = (k : Int) := z1
  have kne : ¬ kL F P t0 C Q R L I i l = -1 := by rw [ek]; omega
  have pm := paI_m hs hi
  have pr := pwI_rg (s0 := s0) (Q := Q) (k := k)
  have ew : wLl F P s0 t0 C Q R L I i l = rwB s0 (lL L l) (pwI s0 Q k) := by unfold wLl; rw [ek, Int.toNat_natCast]
  obtain ⟨lr1, lr2, lr3⟩ := lo_rg h.1 lo3 pr
  rw [← ew] at lr3
  have eo : oL F P t0 C O Q R L I i l = if k < ooI O i then 0 else 1 := by
    unfold oL
    rw [ek]
    by_cases y : k < ooI O i
    · rw [if_pos y, if_neg (by omega)]
    · rw [if_neg y, if_pos (by omega)]
  have orr : oL F P t0 C O Q R L I i l = 0 ∨ oL F P t0 C O Q R L I i l = 1 := by rw [eo]; split <;> omega
  have ro := fun (tx : iS) (hx : KR s0 t0 C Q R L I tx) => r_out (t := tx) hs hx hi ⟨z2, z3⟩
  obtain ⟨rf1, rf2⟩ := r_fit (t := t) h.1 lo3 pr
  rw [← ew] at rf1 rf2
  have eyK : yK F P s0 t0 C O Q R L I c i l T mi mo = xL F P s0 t0 C O Q R L I i l mi ++ yR F P s0 t0 C O Q R L I c l T (oL F P t0 C O Q R L I i l) (wLl F P s0 t0 C Q R L I i l) mo := by unfold yK; rw [if_neg kne]
  have emK : mK F P s0 t0 C O Q R L I c i l mo = mR F P s0 t0 C O Q R L I c l (oL F P t0 C O Q R L I i l) mo := by unfold mK; rw [if_neg kne]
  obtain ⟨wv, hwv⟩ : ∃ wv, wv = wLl F P s0 t0 C Q R L I i l := ⟨_, rfl⟩
  obtain ⟨ov, hov⟩ : ∃ ov, ov = oL F P t0 C O Q R L I i l := ⟨_, rfl⟩
  have b200 : k - bsI i < 200 := by omega
  have kb : (k : Int) - (bsI i : Int) = ((k - bsI i : Nat) : Int) := by omega
  rw [← hwv, ← hov] at eyK
  rw [← hov] at emK orr eo
  rw [← hwv] at lr3 rf1 rf2
  -- the right side, behind the left one
  have fin : ∀ (tx : iS) (Zx : List Nat), RBc P N Zx tx → MIr C Q R I i (mL F P s0 t0 C O Q R L I i l mi) tx → (∀ c k, ¬ (c = 121 ∧ (k = 69 ∨ k = 70)) → c ≠ 217 → tx c k = t c k) → ∃ t', m_checkLinks_333 (c : Int) (r : Int) (i : Int) (l : Int) wv ov tx = some (.inl (((l + 1 : Nat) : Int), t')) ∧ RBc P N (Zx ++ yR F P s0 t0 C O Q R L I c l T ov wv mo) t' ∧ MIr C Q R I i (mL F P s0 t0 C O Q R L I i l mi) t' ∧ MOr C Q R I c (mK F P s0 t0 C O Q R L I c i l mo) t' ∧ (∀ x, (hAt C Q R I c).2.2.2 ≤ x → x < (hAt C Q R I (c + 1)).2.2.2 → t' 215 x = if gvT F P s0 t0 C O Q R L I c i l ∧ nmT F P t0 (I.getD x 0) = nmT F P t0 (lR L l) then 1 else t 215 x) ∧ (∀ c' k, ¬ (c' = 121 ∧ (k = 69 ∨ k = 70)) → ¬ (c' = 215 ∧ (hAt C Q R I c).2.2.2 ≤ k ∧ k < (hAt C Q R I (c + 1)).2.2.2) → c' ≠ 217 → c' ≠ 218 → t' c' k = t c' k) := fun tx Zx hbx hmx f => by
    obtain ⟨t', a1, a2, a3, a4, a5⟩ := r_right (O := O) (out := ov) (w := wv) (mo := mo) h hs (KR_n hr f) hbx hcl hrr hl hT (fun x x1 x2 => by rw [f 214 x (by omega) (by omega)]; exact hI x x1 x2) (fun x x1 x2 => by rw [f 215 x (by omega) (by omega)]; exact hIL x x1 x2) orr (by omega) (fun q q1 q2 => by rw [f 218 q (by omega) (by omega)]; exact hmo q q1 q2)
    unfold m_checkLinks_333
    rw [a1, bq, sv]
    refine ⟨t', rfl, a2, fun k k1 k2 => by rw [a5 217 _ (by omega) (by omega) (by omega)]; exact hmx k k1 k2, by rw [emK]; exact a3, fun x x1 x2 => ?_, fun c' k y1 y2 y3 y4 => by rw [a5 c' k y1 y2 y4, f c' k y1 y3]⟩
    rw [a4 x x1 x2, f 215 x (by omega) (by omega)]
    have : (s0 9 (lR L l) = 3 ∧ kR F P t0 C Q R L I c l = -1 ∧ ov = 1 ∧ nmT F P t0 (I.getD x 0) = nmT F P t0 (lR L l)) ↔ (gvT F P s0 t0 C O Q R L I c i l ∧ nmT F P t0 (I.getD x 0) = nmT F P t0 (lR L l)) := by
      constructor
      · intro y
        refine ⟨⟨by rw [z1]; omega, ?_, y.1, y.2.1⟩, y.2.2.2⟩
        rw [z1]
        have := y.2.2.1
        rw [eo] at this
        by_cases y : k < ooI O i
        · rw [if_pos y] at this; omega
        · omega
      · intro y
        refine ⟨y.1.2.2.1, y.1.2.2.2, ?_, y.2⟩
        have := y.1.2.1
        rw [z1] at this
        rw [eo, if_neg (by omega)]
    by_cases y : s0 9 (lR L l) = 3 ∧ kR F P t0 C Q R L I c l = -1 ∧ ov = 1 ∧ nmT F P t0 (I.getD x 0) = nmT F P t0 (lR L l)
    · rw [if_pos y, if_pos (this.mp y)]
    · rw [if_neg y, if_neg (fun z => y (this.mpr z))]
  rw [z1, if_neg (show ¬ (k : Int) = -1 by omega)] at rp
  rw [rp, bq, kb, gr (by omega), if_neg (by omega), ← kb, (ro t hr).2, bq, r2, r3, r4, rf1, bq]
  rw [eyK, ← List.append_assoc]
  by_cases wm : wv = -1
  · -- the range does not fit
    have exL : xL F P s0 t0 C O Q R L I i l mi = [16 * (lL L l + 1) + 5] := by unfold xL; rw [← hwv, if_pos wm]
    have em2 : mL F P s0 t0 C O Q R L I i l mi = mi := by unfold mL; rw [← hwv, if_neg (fun y => y.2.2 wm)]
    have ra : rgA s0 (lL L l) = ((lL L l + 1 : Nat) : Int) := by
      unfold rgA
      by_cases q : s0 9 (lL L l + 1) = 91
      · rw [if_pos q]
      · exfalso
        have : rwB s0 (lL L l) (pwI s0 Q k) = pwI s0 Q k := by
          unfold rwB hiB loB rgI
          rw [if_neg q, if_neg q, if_neg (by omega), if_neg (by omega)]
          omega
        rw [← ew, ← hwv] at this
        omega
    obtain ⟨t1, a1, a2, a3⟩ := note_c (f := 5) (j := lL L l + 1) h.1 n4 hr.1 hb (by omega) j1
    rw [if_pos wm, gr (by omega), if_pos rfl]
    unfold m_checkLinks_222 m_checkLinks_241
    rw [gr (by omega), if_pos rfl, gd_pos (by omega), Int.toNat_natCast, r2, ra, show (5 : Int) = ((5 : Nat) : Int) from rfl, a1, bq, (ro t1 (KR_n hr (fun c k y _ => a3 c k y))).1, bq, gr (by omega), if_pos rfl, ← eo, exL, show m_checkLinks_333 (c : Int) (r : Int) (i : Int) (l : Int) (-1) ov t1 = m_checkLinks_333 (c : Int) (r : Int) (i : Int) (l : Int) wv ov t1 by rw [wm]]
    exact fin t1 _ a2 (fun k k1 k2 => by rw [em2, a3 217 _ (by omega)]; exact hmi k k1 k2) (fun c k y _ => a3 c k y)
  rw [if_neg wm, gr (by omega), if_neg (by omega), r2, r3, r4, rf2 wm, bq]
  unfold m_checkLinks_222 m_checkLinks_241
  rw [gr (by omega), if_neg (by omega), (ro t hr).1, bq, gr (by omega), if_neg (by omega), ← eo, gr (by omega)]
  by_cases o0 : ov = 0
  case neg =>
    have exL : xL F P s0 t0 C O Q R L I i l mi = [] := by unfold xL; rw [← hwv, ← hov, if_neg wm, if_neg (fun y => o0 y.1)]
    have em2 : mL F P s0 t0 C O Q R L I i l mi = mi := by unfold mL; rw [← hov, if_neg (fun y => o0 y.1)]
    rw [if_neg o0, exL, List.append_nil]
    exact fin t Z hb (by rw [em2]; exact hmi) (fun _ _ _ _ => rfl)
  rw [if_pos o0, gd_pos (by omega), Int.toNat_natCast, r2, r3]
  obtain ⟨mv, hmv⟩ : ∃ mv, mv = mkB (loB s0 (lL L l)) wv := ⟨_, rfl⟩
  have em2 : mL F P s0 t0 C O Q R L I i l mi = mU mi (k - paI C Q R I i) mv := by unfold mL; rw [← hov, ← hwv, if_pos ⟨o0, kne, wm⟩, ek, Int.toNat_natCast, hmv]
  have exL : xL F P s0 t0 C O Q R L I i l mi = if i_and (mi (k - paI C Q R I i)) mv ≠ 0 then [16 * lL L l + 3] else [] := by
    unfold xL
    rw [← hwv, ← hov, if_neg wm, ek, Int.toNat_natCast, ← hmv]
    by_cases y : i_and (mi (k - paI C Q R I i)) mv ≠ 0
    · rw [if_pos y, if_pos ⟨o0, y⟩]
    · rw [if_neg y, if_neg (fun q => y q.2)]
  have B : gd (rg (rgA s0 (lL L l))) (if rgA s0 (lL L l) = (-1) then m_checkLinks_288 (c : Int) (r : Int) (i : Int) (l : Int) ((k : Int) - (bsI i : Int)) wv ov 0 ((i_shl 1 wv) - 1) t else m_checkLinks_288 (c : Int) (r : Int) (i : Int) (l : Int) ((k : Int) - (bsI i : Int)) wv ov (rgI s0 (lL L l)) ((i_shl 1 wv) - 1) t) = m_checkLinks_288 (c : Int) (r : Int) (i : Int) (l : Int) ((k : Int) - (bsI i : Int)) wv ov (rgI s0 (lL L l)) ((i_shl 1 wv) - 1) t := by
    unfold rgA rgI
    by_cases q : s0 9 (lL L l + 1) = 91
    · rw [if_pos q, if_pos q, gr (by omega), if_neg (by omega)]
    · rw [if_neg q, if_neg q, gr (by omega), if_pos rfl]
  have hmv' : i_shl ((i_shl 1 wv) - 1) (rgI s0 (lL L l)) = mv := by rw [hmv]; rfl
  have m217 : t 217 (k - bsI i) = mi (k - paI C Q R I i) := hmi k z2 z3
  rw [B]
  unfold m_checkLinks_288 m_checkLinks_316
  rw [kb, gd_pos (by omega), Int.toNat_natCast, hmv', m217, gd_pos and_rg, exL]
  have fm : ∀ tx : iS, (∀ c k, ¬ (c = 121 ∧ (k = 69 ∨ k = 70)) → tx c k = t c k) → MIr C Q R I i (mL F P s0 t0 C O Q R L I i l mi) (up tx 217 (k - bsI i) (i_or (tx 217 (k - bsI i)) mv)) := fun tx f q q1 q2 => by
    rw [em2]
    unfold mU
    by_cases y : q = k
    · rw [y, up_same, if_pos rfl, f 217 (k - bsI i) (by omega), m217]
    · rw [up_ne (by omega), if_neg (by omega), f 217 (q - bsI i) (by omega)]
      exact hmi q q1 q2
  by_cases y : i_and (mi (k - paI C Q R I i)) mv = 0
  · rw [if_pos y, if_neg (fun q => q y), List.append_nil, gd_pos (by omega), lt_eq]
    refine fin _ Z ?_ (by rw [← m217]; exact fm t (fun _ _ _ => rfl)) (fun c' k' z1 z2 => up_ne (by omega))
    unfold RBc at hb ⊢
    rw [up_ne (by omega), up_ne (by omega)]
    exact hb
  · obtain ⟨tb, b1, b2, b3⟩ := note_c (f := 3) (j := lL L l) h.1 n4 hr.1 hb (by omega) lo1
    have b1' : m_note 3 (lL L l : Int) t = some (0, tb) := b1
    rw [if_neg y, if_pos y, gd_pos (by omega), Int.toNat_natCast, r1, b1', bq, gd_pos (by omega), lt_eq]
    refine fin _ _ ?_ (fm tb b3) (fun c' k' z1 z2 => by rw [up_ne (by omega)]; exact b3 c' k' z1)
    unfold RBc at b2 ⊢
    rw [up_ne (by omega), up_ne (by omega)]
    exact b2
end CIq
