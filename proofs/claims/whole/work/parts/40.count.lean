/-! men that stand, counted by bits and one by one -/
def c26 (c : Nat) : Nat := if c = 25 then 31 else c
def up1 (c : Nat) : Nat := if c = 25 then 0 else 1
theorem bc_t : (List.range 26).all (fun a => (List.range 26).all (fun b => (a == b && a != 25) || (List.range 26).all (fun c => ((a == c && a != 25) || (b == c && b != 25)) || (f_J6_bitCount_0f7a4 (ob1 (ob1 (ob1 0 (c26 a)) (c26 b)) (c26 c)) == nI (up1 a + up1 b + up1 c))))) = true := by decide +kernel
