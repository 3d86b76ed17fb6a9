/-! a new class, a new sub: the counters -/
section NMd
variable {s : iS} {k m : Nat}
theorem sbC (hk : s 33 2 = (k : Int)) (hk2 : k < 1000000) : scp_beginClass s = some (0, up (up (up (up (up s 23 11 (s 23 11 + 1)) 40 4 0) 23 14 (s 40 3)) 23 15 0) 33 2 0) := by
  unfold scp_beginClass
  rw [lt_eq, lt_eq, lt_eq, lt_eq, show up (up s 23 11 (s 23 11 + 1)) 40 4 0 40 3 = s 40 3 by rw [up_ne (by omega), up_ne (by omega)]]
  have e := keep_ok (c := 33) (a := 34) (b := 35) (N := 48) (m := k) (k := 0) (s := up (up (up (up s 23 11 (s 23 11 + 1)) 40 4 0) 23 14 (s 40 3)) 23 15 0) (by rw [up_ne (by omega), up_ne (by omega), up_ne (by omega), up_ne (by omega)]; exact hk) hk2 (by omega)
  rw [show nam_keep 33 34 35 48 0 _ = _ from e, bq, Nat.min_zero]
  rfl
theorem sbS {v : Int} (hk : s 33 2 = (k : Int)) (hk2 : k < 1000000) (hm : s 23 15 = (m : Int)) (hm2 : m ≤ k) : scp_beginSub v s = some (0, up (up (up (up (up s 23 12 (s 23 12 + 1)) 23 13 v) 40 1 0) 40 2 0) 33 2 (m : Int)) := by
  unfold scp_beginSub
  have e15 : up (up (up (up s 23 12 (s 23 12 + 1)) 23 13 v) 40 1 0) 40 2 0 23 15 = (m : Int) := by rw [up_ne (by omega), up_ne (by omega), up_ne (by omega), up_ne (by omega)]; exact hm
  have e := keep_ok (c := 33) (a := 34) (b := 35) (N := 48) (m := k) (k := m) (s := up (up (up (up s 23 12 (s 23 12 + 1)) 23 13 v) 40 1 0) 40 2 0) (by rw [up_ne (by omega), up_ne (by omega), up_ne (by omega), up_ne (by omega)]; exact hk) hk2 (by omega)
  rw [lt_eq, lt_eq, lt_eq, lt_eq, e15, e, bq, Nat.min_eq_right hm2]
end NMd
