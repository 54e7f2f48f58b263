theorem op_point (a0 : Int32) (b1 : Int32) : Op (f_FR_point a0 b1) (f_Mo_point a0 b1) := by
  sorry
theorem op_told (a0 : Int32) (b1 : Int32) : Op (f_FR_told a0 b1) (f_Mo_told a0 b1) := by
  sorry
theorem op_set (a0 : Int32) (b1 : Int32) : Op (f_FR_set a0 b1) (f_Mo_set a0 b1) := by
  sorry
theorem op_turns (a0 : Int32) (b1 : Int32) : Op (f_FR_turns a0 b1) (f_Mo_turns a0 b1) := by
  sorry
theorem op_join (a0 : Int32) (b1 : Int32) (c2 : Int32) : Op (f_FR_join a0 b1 c2) (f_Mo_join a0 b1 c2) := by
  sorry
theorem op_mesh (a0 : Int64) (b1 : Int32) : Op (f_FR_mesh a0 b1) (f_Mo_mesh a0 b1) := by
  sorry
theorem op_near (a0 : Int32) (b1 : Int32) (c2 : Int64) : Op (f_FR_near a0 b1 c2) (f_Mo_near a0 b1 c2) := by
  sorry
theorem op_measure (a0 : Int32) (b1 : Int64) : Op (f_FR_measure a0 b1) (f_Mo_measure a0 b1) := by
  sorry
theorem op_isRing (a0 : Int32) (b1 : Int64) : Op (f_FR_isRing a0 b1) (f_Mo_isRing a0 b1) := by
  sorry
theorem op_order (a0 : Int32) (b1 : Int64) (c2 : Int32) : Op (f_FR_order a0 b1 c2) (f_Mo_order a0 b1 c2) := by
  sorry
theorem op_classes (a0 : Int32) (b1 : Int64) (c2 : Int32) : Op (f_FR_classes a0 b1 c2) (f_Mo_classes a0 b1 c2) := by
  sorry
theorem op_taken (a0 : Int32) (b1 : Int64) : Op (f_FR_taken a0 b1) (f_Mo_taken a0 b1) := by
  sorry
theorem op_left (a0 : Int32) (b1 : Int32) (c2 : Int64) : Op (f_FR_left a0 b1 c2) (f_Mo_left a0 b1 c2) := by
  sorry
theorem op_bound (a0 : Int32) (b1 : Int32) (c2 : Int32) (d3 : Int64) : Op (f_FR_bound a0 b1 c2 d3) (f_Mo_bound a0 b1 c2 d3) := by
  sorry
theorem op_core (a0 : Int32) (b1 : Int32) (c2 : Int64) : Op (f_FR_core a0 b1 c2) (f_Mo_core a0 b1 c2) := by
  sorry
theorem op_greatest (a0 : Int32) (b1 : Int32) (c2 : Int64) : Op (f_FR_greatest a0 b1 c2) (f_Mo_greatest a0 b1 c2) := by
  sorry
theorem op_grown (a0 : Int32) (b1 : Int64) (c2 : Int32) : Op (f_FR_grown a0 b1 c2) (f_Mo_grown a0 b1 c2) := by
  sorry
theorem op_all (a0 : Int32) (b1 : Int32) (c2 : Int64) (d3 : Int32) : Op (f_FR_all a0 b1 c2 d3) (f_Mo_all a0 b1 c2 d3) := by
  sorry
theorem op_turning (a0 : Int32) (b1 : Int32) (c2 : Int64) (d3 : Int32) : Op (f_FR_turning a0 b1 c2 d3) (f_Mo_turning a0 b1 c2 d3) := by
  sorry
theorem op_fewest (a0 : Int32) (b1 : Int64) : Op (f_FR_fewest a0 b1) (f_Mo_fewest a0 b1) := by
  sorry
theorem op_better (a0 : Int32) (b1 : Int64) (c2 : Int64) : Op (f_FR_better a0 b1 c2) (f_Mo_better a0 b1 c2) := by
  sorry
theorem op_prove (a0 : Int32) (b1 : Int32) (c2 : Int32) (d3 : Int32) (e4 : Int64) : Op (f_FR_prove a0 b1 c2 d3 e4) (f_Mo_prove a0 b1 c2 d3 e4) := by
  sorry
theorem op_proof (a0 : Int32) : Op (f_FR_proof a0) (f_Mo_proof a0) := by
  sorry
theorem op_check (a0 : Int32) (b1 : Int32) (c2 : Int32) (d3 : Int32) (e4 : Int32) (f5 : Int64) : Op (f_FR_check a0 b1 c2 d3 e4 f5) (f_Mo_check a0 b1 c2 d3 e4 f5) := by
  sorry
theorem op_writes (a0 : Int32) : Op (f_FR_writes a0) (f_Mo_writes a0) := by
  sorry
theorem op_cover (a0 : Int32) (b1 : Int32) (c2 : Int32) (d3 : Int64) : Op (f_FR_cover a0 b1 c2 d3) (f_Mo_cover a0 b1 c2 d3) := by
  sorry
theorem op_film (a0 : Int32) (b1 : Int32) (c2 : Int64) : Op (f_FR_film a0 b1 c2) (f_Mo_film a0 b1 c2) := by
  sorry
theorem op_slip (a0 : Int32) (b1 : Int32) : Op (f_FR_slip a0 b1) (f_Mo_slip a0 b1) := by
  sorry
theorem op_feed (a0 : Int32) (b1 : Int64) : Op (f_FR_feed a0 b1) (f_Mo_feed a0 b1) := by
  sorry
theorem op_text : Op (f_FR_text) (f_Mo_text) := by
  sorry
theorem op_deal (a0 : Int32) (b1 : Int32) (c2 : Int32) : Op (f_FR_deal a0 b1 c2) (f_Mo_deal a0 b1 c2) := by
  sorry
theorem op_mean (a0 : Int32) (b1 : Int32) (c2 : Int32) (d3 : Int32) (e4 : Int32) : Op (f_FR_mean a0 b1 c2 d3 e4) (f_Mo_mean a0 b1 c2 d3 e4) := by
  sorry
theorem op_hold (a0 : Int32) (b1 : Int32) (c2 : Int64) : Op (f_FR_hold a0 b1 c2) (f_Mo_hold a0 b1 c2) := by
  sorry
theorem op_handAs (a0 : Int32) (b1 : Int32) : Op (f_FR_handAs a0 b1) (f_Mo_handAs a0 b1) := by
  sorry
theorem op_handBound (a0 : Int32) (b1 : Int32) (c2 : Int32) (d3 : Int64) : Op (f_FR_handBound a0 b1 c2 d3) (f_Mo_handBound a0 b1 c2 d3) := by
  sorry
theorem op_handLess (a0 : Int32) (b1 : Int64) : Op (f_FR_handLess a0 b1) (f_Mo_handLess a0 b1) := by
  sorry
theorem op_sheet (a0 : Int32) (b1 : Int32) (c2 : Int32) : Op (f_FR_sheet a0 b1 c2) (f_Mo_sheet a0 b1 c2) := by
  sorry
theorem op_cell (a0 : Int32) (b1 : Int32) (c2 : Int32) : Op (f_FR_cell a0 b1 c2) (f_Mo_cell a0 b1 c2) := by
  sorry
theorem op_read (a0 : Int32) (b1 : Int32) : Op (f_FR_read a0 b1) (f_Mo_read a0 b1) := by
  sorry
theorem op_copy (a0 : Int32) (b1 : Int32) (c2 : Int32) (d3 : Int32) (e4 : Int32) : Op (f_FR_copy a0 b1 c2 d3 e4) (f_Mo_copy a0 b1 c2 d3 e4) := by
  sorry
theorem op_image : Op (f_FR_image) (f_Mo_image) := by
  sorry
theorem op_back : Op (f_FR_back) (f_Mo_back) := by
  sorry
theorem op_count (a0 : Int32) : Op (f_FR_count a0) (f_Mo_count a0) := by
  sorry
