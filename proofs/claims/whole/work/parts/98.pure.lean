theorem pure_law : jp_Goal := by
  sorry
