/-! what stands beside the items: kept by every step of a body -/
section RHX
variable {R : List itm → iS → Prop} {X : iS → Prop} {b : Int} {fv : Nat → Int} {s0 : iS} {N : Nat} {P : Nat → Nat}
theorem RHE_and (h : RHE R b fv s0 N) (hX : ∀ s s', X s → MD s s' → X s') (hu : ∀ s x, X s → X (up s 2 12 x) ∧ X (up s 22 5 x) ∧ X (up s 22 6 x) ∧ X (up s 22 7 x)) : RHE (fun l s => R l s ∧ X s) b fv s0 N := by
  obtain ⟨h1, h2, h3, h4, h5, h6, h7, h8, h9, h10, h11, h12, h13, h14, h15, h16⟩ := h
  refine ⟨?_, ?_, ?_, ?_, ?_, ?_, ?_, ?_, ?_, ?_, ?_, ?_, ?_, ?_, ?_, ?_⟩
  · intro l s x ⟨r, q⟩
    obtain ⟨a1, a2, a3, a4⟩ := h1 l s x r
    obtain ⟨c1, c2, c3, c4⟩ := hu s x q
    exact ⟨⟨a1, c1⟩, ⟨a2, c2⟩, ⟨a3, c3⟩, ⟨a4, c4⟩⟩
  · exact fun l s r => h2 l s r.1
  · intro l s v j ⟨r, q⟩ z1 z2
    obtain ⟨s1, a1, a2, a3⟩ := h3 l s v j r z1 z2
    exact ⟨s1, a1, ⟨a2, hX _ _ q a3⟩, a3⟩
  · intro l s j ⟨r, q⟩
    obtain ⟨s1, s2, a1, a2, a3, a4⟩ := h4 l s j r
    exact ⟨s1, s2, a1, a2, ⟨a3, hX _ _ q a4⟩, a4⟩
  · intro l s j ⟨r, q⟩ z1 z2 z3 z4
    obtain ⟨s1, s2, s3, s4, a1, a2, a3, a4, a5, a6⟩ := h5 l s j r z1 z2 z3 z4
    exact ⟨s1, s2, s3, s4, a1, a2, a3, a4, ⟨a5, hX _ _ q a6⟩, a6⟩
  · intro l s j ⟨r, q⟩ z1 z2
    obtain ⟨s1, s2, a1, a2, a3, a4⟩ := h6 l s j r z1 z2
    exact ⟨s1, s2, a1, a2, ⟨a3, hX _ _ q a4⟩, a4⟩
  · exact fun l s j r z1 z2 z3 => h7 l s j r.1 z1 z2 z3
  · intro l s j ⟨r, q⟩ z1 z2 z3
    obtain ⟨s1, s2, a1, a2, a3, a4⟩ := h8 l s j r z1 z2 z3
    exact ⟨s1, s2, a1, a2, ⟨a3, hX _ _ q a4⟩, a4⟩
  · intro l s j ⟨r, q⟩
    obtain ⟨s1, s2, s3, a1, a2, a3, a4, a5, a6⟩ := h9 l s j r
    exact ⟨s1, s2, s3, a1, a2, a3, ⟨a4, hX _ _ q a5⟩, a5, a6⟩
  · intro l s c j ⟨r, q⟩ z1
    obtain ⟨s1, a1, a2, a3⟩ := h10 l s c j r z1
    exact ⟨s1, a1, ⟨a2, hX _ _ q a3⟩, a3⟩
  · intro l s j ⟨r, q⟩
    obtain ⟨s1, a1, a2, a3⟩ := h11 l s j r
    exact ⟨s1, a1, ⟨a2, hX _ _ q a3⟩, a3⟩
  · intro l s j ⟨r, q⟩
    obtain ⟨s1, a1, a2, a3⟩ := h12 l s j r
    exact ⟨s1, a1, ⟨a2, hX _ _ q a3⟩, a3⟩
  · intro l s j ⟨r, q⟩ z1 z2 z3
    obtain ⟨s1, s2, a1, a2, a3, a4⟩ := h13 l s j r z1 z2 z3
    exact ⟨s1, s2, a1, a2, ⟨a3, hX _ _ q a4⟩, a4⟩
  · intro l s j ⟨r, q⟩ z1 z2 z3 z4
    obtain ⟨k1, k2⟩ := h14 l s j r z1 z2 z3 z4
    refine ⟨fun c => ?_, fun c => ⟨k2 c, q⟩⟩
    obtain ⟨s1, s2, a1, a2, a3, a4⟩ := k1 c
    exact ⟨s1, s2, a1, a2, ⟨a3, hX _ _ q a4⟩, a4⟩
  · intro l s j m G ⟨r, q⟩ z1 z2 z3 z4
    obtain ⟨s1, a1, a2, a3⟩ := h15 l s j m G r z1 z2 z3 z4
    exact ⟨s1, a1, ⟨a2, hX _ _ q a3⟩, a3⟩
  · intro l s j m G ⟨r, q⟩ z1 z2 z3 z4 z5
    obtain ⟨s1, a1, a2, a3⟩ := h16 l s j m G r z1 z2 z3 z4 z5
    exact ⟨s1, a1, ⟨a2, hX _ _ q a3⟩, a3⟩
theorem RHS_and (h : RHS R b fv s0 N P) (hX : ∀ s s', X s → MD s s' → X s') (hu : ∀ s x, X s → X (up s 2 12 x)) : RHS (fun l s => R l s ∧ X s) b fv s0 N P := by
  obtain ⟨h1, h2, h3, h4, h5, h6, h7, h8, h9, h10, h11, h12, h13⟩ := h
  refine ⟨?_, ?_, ?_, ?_, ?_, ?_, ?_, ?_, ?_, ?_, ?_, ?_, ?_⟩
  · exact fun hb l s x r => ⟨h1 hb l s x r.1, hX _ _ r.2 (md_upF (by simp))⟩
  · intro l s j ⟨r, q⟩ z1 z2
    obtain ⟨s1, a1, a2, a3⟩ := h2 l s j r z1 z2
    exact ⟨s1, a1, ⟨a2, hX _ _ q a3⟩, a3⟩
  · intro l s j ⟨r, q⟩ z1 z2 z3 z4
    obtain ⟨s1, s2, a1, a2, a3, a4, a5⟩ := h3 l s j r z1 z2 z3 z4
    exact ⟨s1, s2, a1, a2, a3, ⟨a4, hX _ _ (hu _ _ q) a5⟩, a5⟩
  · intro l s j ⟨r, q⟩ z1 z2 z3 z4 z5
    obtain ⟨s1, a1, a2, a3⟩ := h4 l s j r z1 z2 z3 z4 z5
    exact ⟨s1, a1, ⟨a2, hX _ _ q a3⟩, a3⟩
  · intro l s j ⟨r, q⟩ z1 z2 z3 z4 z5
    obtain ⟨s1, a1, a2, a3⟩ := h5 l s j r z1 z2 z3 z4 z5
    exact ⟨s1, a1, ⟨a2, hX _ _ q a3⟩, a3⟩
  · intro l s j ⟨r, q⟩
    obtain ⟨s1, s2, s3, s4, a1, a2, a3, a4, a5, a6⟩ := h6 l s j r
    exact ⟨s1, s2, s3, s4, a1, a2, a3, a4, ⟨a5, hX _ _ q a6⟩, a6⟩
  · intro l s j ⟨r, q⟩
    obtain ⟨s1, a1, a2, a3⟩ := h7 l s j r
    exact ⟨s1, a1, ⟨a2, hX _ _ q a3⟩, a3⟩
  · intro l s j ⟨r, q⟩
    obtain ⟨s1, a1, a2, a3⟩ := h8 l s j r
    exact ⟨s1, a1, ⟨a2, hX _ _ q a3⟩, a3⟩
  · intro l s j lab ⟨r, q⟩ z1
    obtain ⟨s1, s2, s3, a1, a2, a3, a4, a5⟩ := h9 l s j lab r z1
    exact ⟨s1, s2, s3, a1, a2, a3, ⟨a4, hX _ _ q a5⟩, a5⟩
  · intro l s x j lab ⟨r, q⟩ z1
    obtain ⟨s1, a1, a2, a3⟩ := h10 l s x j lab r z1
    exact ⟨s1, a1, ⟨a2, hX _ _ q a3⟩, a3⟩
  · intro l s j lab ⟨r, q⟩ z1
    obtain ⟨s1, a1, a2, a3⟩ := h11 l s j lab r z1
    exact ⟨s1, a1, ⟨a2, hX _ _ q a3⟩, a3⟩
  · intro l s j ⟨r, q⟩ z1
    obtain ⟨s1, a1, a2, a3⟩ := h12 l s j r z1
    exact ⟨s1, a1, ⟨a2, hX _ _ q a3⟩, a3⟩
  · exact fun l s j r => ⟨h13 l s j r.1, r.2⟩
end RHX
