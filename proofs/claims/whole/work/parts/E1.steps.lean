/-! every pair of calls keeps the relation -/
theorem all_steps : AllSteps R := ⟨pair_place, pair_way, pair_wayTold, pair_shut, pair_goal, pair_goalTold, pair_hours, pair_sign, pair_told, pair_as, pair_turns, pair_row, pair_rowTold, pair_drop, pair_aim, pair_undo, pair_feed, pair_trim, pair_text, pair_textTold, pair_why, pair_walk, pair_via, pair_far, pair_next, pair_breaches, pair_breach, pair_needs, pair_wrong, pair_mend, pair_choose, pair_clear, pair_fewest, pair_seed, pair_strangers, pair_led, pair_sheet, pair_mark, pair_fill, pair_copy, pair_lay, pair_ask, pair_item, pair_rest, pair_tell, pair_check, pair_keep, pair_back, pair_count⟩
theorem all_cost (m : Nat) (h : PH) (hm : m ≤ 64) (r : R m h) : hC h ≤ 600000 ∧ hS h ≤ 7302250 := by
  obtain ⟨-, -, -, -, -, -, -, -, -, -, q⟩ := r
  obtain ⟨q1, q2⟩ := q
  exact ⟨by omega, by omega⟩
theorem law_pure {L : Nat} {xs : Nat → Int32} (hL : L ≤ 384) : ∃ h, L_law_72 L xs 1 h00 = some (some (.inl 1), h) ∧ hC h ≤ 600000 ∧ hS h ≤ 7302250 := law_main all_steps (fun _ _ r => r.mono) (fun _ e => first_R e) all_cost hL
