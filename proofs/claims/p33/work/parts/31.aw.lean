/-! words that the law wants -/

