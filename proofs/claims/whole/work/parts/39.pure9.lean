def far0 (v k : Nat) : Int32 := if k = v then nI 0 else -1
