/-! ===== PURE: all calls ===== -/
theorem ops_ok : OpsOK VI := by
  intro n σ hn hV a b c e
  obtain ⟨q, ver, h⟩ := hV
  exact ⟨⟨q, ver, VV_up hn h⟩, op_letter hn h a, op_quantity hn h a, op_tell hn h a b c, op_turn hn h a b, op_of hn h a b, op_twin hn h a, op_taken hn h a b, op_rank hn h a, op_group hn h a b, op_pure hn h a, op_cover hn h a b c, op_box hn h, op_least hn h a, op_may hn h a, op_rest hn h a b c, op_sets hn h a, op_sizes hn h a, op_odds hn h a, op_scale hn h a b c, op_scaled hn h a b, op_alike hn h, op_must hn h a b c e, op_whole hn h a b, op_off hn h a, op_fewest hn h a b, op_had hn h a, op_formula hn h, op_wrong hn h a, op_sides hn h a b, op_mend hn h a, op_lots hn h a b c, op_list hn h a b, op_put hn h a b c, op_look hn h a b, op_lays hn h a b c, op_judge hn h a, op_undo hn h, op_image hn h, op_on hn h, op_count hn h a⟩
