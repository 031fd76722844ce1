theorem yw_Lr_71 : ∀ w ∈ Bundle.ownAtoms R_Lr 71 eS y_nms, w ∈ gT ∨ w ∈ y_zw := by decide +kernel
theorem yw_Lr_80 : ∀ w ∈ Bundle.ownAtoms R_Lr 80 eA y_nms, w ∈ gT ∨ w ∈ y_zw := by decide +kernel
theorem yw_Lr_99 : ∀ w ∈ Bundle.ownAtoms R_Lr 99 eB y_nms, w ∈ gT ∨ w ∈ y_zw := by decide +kernel
