/-! A small machine over numbers: what the bytecode of the class, the reference and the few members of the JDK does, told over plain Int. Part 11 ties it to the JVM's own machine. -/
abbrev AV : Type := Nat × Int
abbrev En : Type := Nat × Instr × List Int
