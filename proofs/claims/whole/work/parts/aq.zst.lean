/-! THE LAW: its start, the class's object -/
def zlc0 : zAd := fun c_ _ => if c_ = 6 then 0 else if c_ = 20 then 1 else if c_ = 21 then 2 else if c_ = 22 then 3 else if c_ = 23 then 4 else if c_ = 31 then 5 else if c_ = 3 then 6 else 0
set_option maxRecDepth 100000 in
theorem zt22 : zev 300 none 4 22 0 (zent [.ref 0] (zinf 22).2.1) [] [(6, (zdfs[6]?).getD [])] = some (.inl none, [(6, (zfs 6 0 (fun _ => 0)).map (ztr zlc0)), (8, [.int 0, .retAddr 1, .int 0]), (8, [.int 0, .retAddr 1, .int 0]), (8, [.int 0, .retAddr 1, .int 0]), (8, [.int 0, .retAddr 1, .int 0]), (101, (zfs 31 0 (fun _ => 0)).map (ztr zlc0)), (3, (zfs 3 0 (fun _ => 0)).map (ztr zlc0))]) := by rfl
set_option maxRecDepth 100000 in
theorem zt120 : (zev 600 none 1 120 0 (zent [.ref 0] (zinf 120).2.1) [] [(7, (zdfs[7]?).getD [])]).isSome = true := by rfl
