/-! words -/

