set_option maxRecDepth 100000 in
theorem zz_a : ∀ y ∈ [40, 41, 42, 43, 44, 45], (cod y).all (fun e => decide (decode (bc y) e.1 = .ok (e.2.1, lenI e.2.1 e.2.2))) = true := by decide +kernel
