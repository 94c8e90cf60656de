def q_mok (y : Nat) (x : q_MT) : Bool :=
  decide (plainName x.1.cls = true) && decide (x.1.cls ≠ "java/lang/invoke/MethodHandle" ∧ x.1.cls ≠ "java/lang/invoke/VarHandle") && decide ((parseMethodDescriptor x.1.desc).map (fun d => d.parameters.length) = q_nar[y]?) && decide (x.2.2.1 ≤ 18) && decide (x.1.cls = q_cn x.2.2.2.2.2.2.1) &&
  (match x.2.2.2.2.2.1 with
   | 0 => true
   | 1 => decide (x.2.2.2.2.1 = []) && decide (x.1.name ≠ "<init>")
   | 2 => decide (x.1.name = "<init>") && decide (x.2.2.2.2.1 = []) && decide (x.2.2.2.1 = none)
   | _ => false)
def q_mokL : Nat → List q_MT → Bool
  | y, x :: xs => (decide (y = q_law) || q_mok y x) && q_mokL (y + 1) xs
  | _, [] => true
set_option maxRecDepth 100000 in
theorem q_mok0 : q_mokL 0 q_m0 = true := by decide +kernel
set_option maxRecDepth 100000 in
theorem q_mok1 : q_mokL 20 q_m1 = true := by decide +kernel
set_option maxRecDepth 100000 in
theorem q_mok2 : q_mokL 40 q_m2 = true := by decide +kernel
set_option maxRecDepth 100000 in
theorem q_mok3 : q_mokL 60 q_m3 = true := by decide +kernel
set_option maxRecDepth 100000 in
theorem q_mok4 : q_mokL 80 q_m4 = true := by decide +kernel
set_option maxRecDepth 100000 in
theorem q_mok5 : q_mokL 100 q_m5 = true := by decide +kernel
set_option maxRecDepth 100000 in
theorem q_mok6 : q_mokL 120 q_m6 = true := by decide +kernel
set_option maxRecDepth 100000 in
theorem q_mok7 : q_mokL 140 q_m7 = true := by decide +kernel
set_option maxRecDepth 100000 in
theorem q_mok8 : q_mokL 160 q_m8 = true := by decide +kernel
set_option maxRecDepth 100000 in
theorem q_mok9 : q_mokL 180 q_m9 = true := by decide +kernel
set_option maxRecDepth 100000 in
theorem q_mok10 : q_mokL 200 q_m10 = true := by decide +kernel
set_option maxRecDepth 100000 in
theorem q_mok11 : q_mokL 220 q_m11 = true := by decide +kernel
set_option maxRecDepth 100000 in
theorem q_mok12 : q_mokL 240 q_m12 = true := by decide +kernel
set_option maxRecDepth 100000 in
theorem q_mok13 : q_mokL 260 q_m13 = true := by decide +kernel
set_option maxRecDepth 100000 in
theorem q_mok14 : q_mokL 280 q_m14 = true := by decide +kernel
set_option maxRecDepth 100000 in
theorem q_mok15 : q_mokL 300 q_m15 = true := by decide +kernel
set_option maxRecDepth 100000 in
theorem q_mok16 : q_mokL 320 q_m16 = true := by decide +kernel
set_option maxRecDepth 100000 in
theorem q_mok17 : q_mokL 340 q_m17 = true := by decide +kernel
