-- ===== the law from its loop on =====
theorem u_run {sn : Nat} {xs : Nat → Int32} (hsn : sn ≤ 3072) : zUL sn xs 0 23 (LU 0) [] M1 := u_loop uc_6 uc_8 uc_9 uc_10 uc_25 uc_26 hsn 513 0 M1 rfl (by omega) J_start
