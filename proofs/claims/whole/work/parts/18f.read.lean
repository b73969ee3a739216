theorem m_read {σ : Sg} (h : Inv σ) : Sim f_X11_read f_X12_read σ := by
  sorry
