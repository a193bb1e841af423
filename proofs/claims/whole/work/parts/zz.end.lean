/-! the last part: small, as it compiles in every round -/
theorem zz_end : True := trivial
