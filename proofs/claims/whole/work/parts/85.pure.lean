theorem pm_pure : pm_Pure := by
  sorry
