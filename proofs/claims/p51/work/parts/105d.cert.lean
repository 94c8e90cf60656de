/-- an instruction's own words in the table of links -/
def q_eok (o : Nat) (e : Nat × Instr × Nat × Nat) : Bool := match e.2.1 with
  | .getfield i | .putfield i => q_flp.any (fun x => decide (x.2 = (o, i, e.2.2.1, e.2.2.2)))
  | .new i => q_klp.any (fun x => decide (x.2 = (o, i, e.2.2.1)))
  | .anewarray i => q_klp.any (fun x => decide (x.2 = (o, i, e.2.2.1 + 1 + (e.2.2.1 - 5) * 2)))
  | .ldc i => if e.2.2.1 = 0 then q_cip.any (fun x => decide (x.2 = (o, i, e.2.2.2))) else decide (e.2.2.2 < q_sc.length ∧ (q_sc.getD e.2.2.2 default).1 = q_cn o ∧ (q_sc.getD e.2.2.2 default).2.1 = i)
  | .ldc_w i => q_cip.any (fun x => decide (x.2 = (o, i, e.2.2.2)))
  | .ldc2_w i => q_clp.any (fun x => decide (x.2 = (o, i, e.2.2.2)))
  | .invokestatic i => if e.2.2.1 = 999 then true else q_mlp.any (fun x => decide (x.2 = (o, i, e.2.2.1))) && (if 900 ≤ e.2.2.1 then decide (e.2.2.1 ∈ [910, 911, 912, 913]) else decide ((q_row e.2.2.1).2.2.2.2.2.1 = 0) && decide (q_nar[e.2.2.1]? = some e.2.2.2))
  | .invokevirtual i => q_mlp.any (fun x => decide (x.2 = (o, i, e.2.2.1))) && (if 900 ≤ e.2.2.1 then decide (e.2.2.1 ∈ [900, 901]) else decide ((q_row e.2.2.1).2.2.2.2.2.1 = 1) && decide (q_nar[e.2.2.1]? = some e.2.2.2))
  | .invokespecial i => if e.2.2.1 = 999 then true else q_mlp.any (fun x => decide (x.2 = (o, i, e.2.2.1))) && (if 900 ≤ e.2.2.1 then decide (e.2.2.1 = 914) else decide ((q_row e.2.2.1).2.2.2.2.2.1 = 2) && decide (q_nar[e.2.2.1]? = some e.2.2.2))
  | i => q_br i e.2.2.1 e.1
def q_xe (bytes : ByteArray) (o : Nat) (e : Nat × Instr × Nat × Nat) : Bool := decide (decode bytes e.1 = .ok (e.2.1, q_len e.2.1 e.2.2.2)) && q_eok o e && q_br e.2.1 e.2.2.1 e.1
def q_xok (x : q_MT) : Bool := x.2.2.2.2.2.2.2.all (q_xe x.2.1 x.2.2.2.2.2.2.1)
