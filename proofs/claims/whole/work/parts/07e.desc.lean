set_option maxRecDepth 100000 in
theorem y_desc : ∀ y, y < nY → (parseMethodDescriptor (yn y).desc).map (fun d => d.parameters.length) = some ((mi y).2.1.length - (if isSt y then 0 else 1)) := by decide +kernel
