/-! ===== plan: both ===== -/
def ansP (a : Acc) (x : Int32) : Int32 := if x = -1 then fewI a else if a.1 = 99 then -9 else eSz (a.2 x.toNatClampNeg)
