/-! the first search's function: begin at 6561 places is its second half -/
theorem f4_begin_6561 {set tail broken rungs people a1 r_1 : Int32} {f0 q0 dg ab bl rung : Nat → Int32} (hc2 : f10_whoIsLeft rung people = some r_1) (c3 : (a1 &&& (r_1 ^^^ (-1 : Int32))) = 0) : f4_begin set 6561 f0 6561 q0 tail dg ab bl broken rung rungs people a1 = f4_begin_J47 6561 rungs broken people rung 6561 a1 f0 q0 tail dg ab bl := by
  unfold f4_begin
  rw [hc2, bnd1_s, if_pos c3, if_neg (show ¬ Int32.ofNat 6561 = 0 by decide)]
