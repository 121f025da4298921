/-! ===== OPEN: one statement a method, class and reference answer alike and keep the invariant; each counts only when its sorry is gone ===== -/
