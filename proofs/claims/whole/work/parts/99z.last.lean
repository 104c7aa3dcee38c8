/-! ===== the last ===== -/
theorem zz_last : True := trivial
