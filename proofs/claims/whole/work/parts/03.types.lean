/-! ===== types of the tables (mine) ===== -/
/-- pc, instruction, length, three numbers, whether a loop begins here, a constant, the ways of a switch -/
abbrev Ent : Type := Nat × Instr × Nat × Nat × Nat × Nat × Bool × Value × List (Int32 × Nat)
abbrev Lv : Type := List (Nat × Value)
/-- own class, name, bytes, locals, return type, its kind, loop heads with what is live there, code -/
abbrev MR : Type := String × MethodName × ByteArray × Nat × Option FieldType × Nat × List (Nat × List Nat) × List Ent
def ab_fts : List (List Nat) := [[2, 2, 2], [2, 2, 2, 2, 0, 0, 0, 0, 0, 2, 2, 2], [2, 2, 2, 0, 2, 2, 0, 2, 2], [2, 2, 2, 0], [2, 2, 2, 0, 0, 2, 0], [2, 0, 2, 0], [2, 2, 2, 0, 2, 0, 2, 2, 0, 0, 0], [2, 0, 0], [2, 0, 0, 2, 2, 2, 0, 0], [2, 2, 2, 2, 2], [0, 2, 0, 2, 2, 2, 2, 0, 2, 0], [2, 2, 2, 2, 2, 2, 2, 2, 2, 2, 2, 2, 2, 2, 2], [2, 2, 2, 2, 0, 0, 0, 0, 0, 0, 0, 1, 0, 0, 0, 2, 0, 0, 3, 0, 2, 2, 2, 3, 0, 2, 2, 2, 2, 2, 0]]
