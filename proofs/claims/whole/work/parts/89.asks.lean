/-! each look, on both sides -/
theorem o_narrow : Ok FX10_narrow FX11_narrow := Ok_c (v := fun B => S_narrow B ) (fun B hB => cq_narrow hB ) (fun B hB => mq_narrow hB ) (fun f h => by
  unfold FX10_narrow FX10_narrow_0
  rw [stands_e, b2_some, h 0 (by decide), if_neg (show ¬ ((0 : Int) < 0) by decide), if_pos rfl]
  show _ = some (S_narrow B0 , f)
  unfold S_narrow
  rw [if_neg (by simp only [n0D, n0C, n0K, n08]; omega)])
theorem o_shut : Ok FX10_shut FX11_shut := Ok_c (v := fun B => S_shut B ) (fun B hB => cq_shut hB ) (fun B hB => mq_shut hB ) (fun f h => by
  unfold FX10_shut FX10_shut_0
  rw [stands_e, b2_some, h 0 (by decide), if_neg (show ¬ ((0 : Int) < 0) by decide), if_pos rfl]
  show _ = some (S_shut B0 , f)
  unfold S_shut
  rw [if_neg (by simp only [n0D, n0C, n0K, n08]; omega)])
theorem o_stuck : Ok FX10_stuck FX11_stuck := Ok_c (v := fun B => S_stuck B ) (fun B hB => cq_stuck hB ) (fun B hB => mq_stuck hB ) (fun f h => by
  unfold FX10_stuck FX10_stuck_0
  rw [stands_e, b2_some, h 0 (by decide), if_neg (show ¬ ((0 : Int) < 0) by decide), if_pos rfl]
  show _ = some (S_stuck B0 , f)
  unfold S_stuck
  rw [if_neg (by simp only [n0D, n0C, n0K, n08]; omega)])
theorem o_lost : Ok FX10_lost FX11_lost := Ok_c (v := fun B => S_lost B ) (fun B hB => cq_lost hB ) (fun B hB => mq_lost hB ) (fun f h => by
  unfold FX10_lost FX10_lost_0
  rw [stands_e, b2_some, h 0 (by decide), if_neg (show ¬ ((0 : Int) < 0) by decide), if_pos rfl]
  show _ = some (S_lost B0 , f)
  unfold S_lost
  rw [if_neg (by simp only [n0D, n0C, n0K, n08]; omega)])
theorem o_kept : Ok FX10_kept FX11_kept := Ok_c (v := fun B => S_kept B ) (fun B hB => cq_kept hB ) (fun B hB => mq_kept hB ) (fun f h => by
  unfold FX10_kept FX10_kept_0
  rw [stands_e, b2_some, h 0 (by decide), if_neg (show ¬ ((0 : Int) < 0) by decide), if_pos rfl]
  show _ = some (S_kept B0 , f)
  unfold S_kept
  rw [if_neg (by simp only [n0D, n0C, n0K, n08]; omega)])
theorem o_pays : Ok FX10_pays FX11_pays := Ok_c (v := fun B => S_pays B ) (fun B hB => cq_pays hB ) (fun B hB => mq_pays hB ) (fun f h => by
  unfold FX10_pays FX10_pays_0
  rw [stands_e, b2_some, h 0 (by decide), if_neg (show ¬ ((0 : Int) < 0) by decide), if_pos rfl]
  show _ = some (S_pays B0 , f)
  unfold S_pays
  rw [if_neg (by simp only [n0D, n0C, n0K, n08]; omega)])
theorem o_costs : Ok FX10_costs FX11_costs := Ok_c (v := fun B => S_costs B ) (fun B hB => cq_costs hB ) (fun B hB => mq_costs hB ) (fun f h => by
  unfold FX10_costs FX10_costs_0
  rw [stands_e, b2_some, h 0 (by decide), if_neg (show ¬ ((0 : Int) < 0) by decide), if_pos rfl]
  show _ = some (S_costs B0 , f)
  unfold S_costs
  rw [if_neg (by simp only [n0D, n0C, n0K, n08]; omega)])
theorem o_peak : Ok FX10_peak FX11_peak := Ok_c (v := fun B => S_peak B ) (fun B hB => cq_peak hB ) (fun B hB => mq_peak hB ) (fun f h => by
  unfold FX10_peak FX10_peak_0
  rw [stands_e, b2_some, h 0 (by decide), if_neg (show ¬ ((0 : Int) < 0) by decide), if_pos rfl]
  show _ = some (S_peak B0 , f)
  unfold S_peak
  rw [if_neg (by simp only [n0D, n0C, n0K, n08]; omega)])
theorem o_crowd : Ok FX10_crowd FX11_crowd := Ok_c (v := fun B => S_crowd B ) (fun B hB => cq_crowd hB ) (fun B hB => mq_crowd hB ) (fun f h => by
  unfold FX10_crowd FX10_crowd_0
  rw [stands_e, b2_some, h 0 (by decide), if_neg (show ¬ ((0 : Int) < 0) by decide), if_pos rfl]
  show _ = some (S_crowd B0 , f)
  unfold S_crowd
  rw [if_neg (by simp only [n0D, n0C, n0K, n08]; omega)])
theorem o_late : Ok FX10_late FX11_late := Ok_c (v := fun B => S_late B ) (fun B hB => cq_late hB ) (fun B hB => mq_late hB ) (fun f h => by
  unfold FX10_late FX10_late_0
  rw [stands_e, b2_some, h 0 (by decide), if_neg (show ¬ ((0 : Int) < 0) by decide), if_pos rfl]
  show _ = some (S_late B0 , f)
  unfold S_late
  rw [if_neg (by simp only [n0D, n0C, n0K, n08]; omega)])
theorem o_delay : Ok FX10_delay FX11_delay := Ok_c (v := fun B => S_delay B ) (fun B hB => cq_delay hB ) (fun B hB => mq_delay hB ) (fun f h => by
  unfold FX10_delay FX10_delay_0
  rw [stands_e, b2_some, h 0 (by decide), if_neg (show ¬ ((0 : Int) < 0) by decide), if_pos rfl]
  show _ = some (S_delay B0 , f)
  unfold S_delay
  rw [if_neg (by simp only [n0D, n0C, n0K, n08]; omega)])
theorem o_queue : Ok FX10_queue FX11_queue := Ok_c (v := fun B => S_queue B ) (fun B hB => cq_queue hB ) (fun B hB => mq_queue hB ) (fun f h => by
  unfold FX10_queue FX10_queue_0
  rw [stands_e, b2_some, h 0 (by decide), if_neg (show ¬ ((0 : Int) < 0) by decide), if_pos rfl]
  show _ = some (S_queue B0 , f)
  unfold S_queue
  rw [if_neg (by simp only [n0D, n0C, n0K, n08]; omega)])
theorem o_line : Ok FX10_line FX11_line := Ok_c (v := fun B => S_line B ) (fun B hB => cq_line hB ) (fun B hB => mq_line hB ) (fun f h => by
  unfold FX10_line FX10_line_0
  rw [stands_e, b2_some, h 0 (by decide), if_neg (show ¬ ((0 : Int) < 0) by decide), if_pos rfl]
  show _ = some (S_line B0 , f)
  unfold S_line
  rw [if_neg (by simp only [n0D, n0C, n0K, n08]; omega)])
theorem o_best : Ok FX10_best FX11_best := Ok_p (v := fun B => S_best B ) (fun B hB => pq_best hB ) (fun B hB => mq_best hB ) (fun f h => by
  unfold FX10_best FX10_best_0
  rw [stands_e, b2_some, h 0 (by decide), if_neg (show ¬ ((0 : Int) < 0) by decide), if_pos rfl]
  show _ = some (S_best B0 , f)
  unfold S_best
  rw [if_neg (by simp only [n0D, n0C, n0K, n08]; omega)])
theorem o_ways : Ok FX10_ways FX11_ways := Ok_p (v := fun B => S_ways B ) (fun B hB => pq_ways hB ) (fun B hB => mq_ways hB ) (fun f h => by
  unfold FX10_ways FX10_ways_0
  rw [stands_e, b2_some, h 0 (by decide), if_neg (show ¬ ((0 : Int) < 0) by decide), if_pos rfl]
  show _ = some (S_ways B0 , f)
  unfold S_ways
  rw [if_neg (by simp only [n0D, n0C, n0K, n08]; omega)])
theorem o_sets : Ok FX10_sets FX11_sets := Ok_p (v := fun B => S_sets B ) (fun B hB => pq_sets hB ) (fun B hB => mq_sets hB ) (fun f h => by
  unfold FX10_sets FX10_sets_0
  rw [stands_e, b2_some, h 0 (by decide), if_neg (show ¬ ((0 : Int) < 0) by decide), if_pos rfl]
  show _ = some (S_sets B0 , f)
  unfold S_sets
  rw [if_neg (by simp only [n0D, n0C, n0K, n08]; omega)])
theorem o_widest : Ok FX10_widest FX11_widest := Ok_p (v := fun B => S_widest B ) (fun B hB => pq_widest hB ) (fun B hB => mq_widest hB ) (fun f h => by
  unfold FX10_widest FX10_widest_0
  rw [stands_e, b2_some, h 0 (by decide), if_neg (show ¬ ((0 : Int) < 0) by decide), if_pos rfl]
  show _ = some (S_widest B0 , f)
  unfold S_widest
  rw [if_neg (by simp only [n0D, n0C, n0K, n08]; omega)])
theorem o_width (x : Int) : Ok (FX10_width x) (FX11_width x) := Ok_c (v := fun B => S_width B x) (fun B hB => cq_width hB x) (fun B hB => mq_width hB x) (fun f h => by
  unfold FX10_width FX10_width_0
  rw [hasDay_e, b2_some, h 1 (by decide), if_neg (show ¬ (0 ≤ x ∧ x < (0 : Int)) by omega), if_pos rfl]
  show _ = some (S_width B0 x, f)
  unfold S_width
  rw [if_neg (by simp only [n0D, n0C, n0K, n08]; omega)])
theorem o_passes (x : Int) : Ok (FX10_passes x) (FX11_passes_ x) := Ok_c (v := fun B => S_passes B x) (fun B hB => cq_passes hB x) (fun B hB => mq_passes hB x) (fun f h => by
  unfold FX10_passes FX10_passes_0
  rw [hasCart_e, b2_some, h 5 (by decide), if_neg (show ¬ (0 ≤ x ∧ x < (0 : Int)) by omega), if_pos rfl]
  show _ = some (S_passes B0 x, f)
  unfold S_passes
  rw [if_neg (by simp only [n0D, n0C, n0K, n08]; omega)])
theorem o_over (x : Int) : Ok (FX10_over x) (FX11_over x) := Ok_c (v := fun B => S_over B x) (fun B hB => cq_over hB x) (fun B hB => mq_over hB x) (fun f h => by
  unfold FX10_over FX10_over_0
  rw [hasDay_e, b2_some, h 1 (by decide), if_neg (show ¬ (0 ≤ x ∧ x < (0 : Int)) by omega), if_pos rfl]
  show _ = some (S_over B0 x, f)
  unfold S_over
  rw [if_neg (by simp only [n0D, n0C, n0K, n08]; omega)])
theorem o_waits (x : Int) : Ok (FX10_waits x) (FX11_waits x) := Ok_c (v := fun B => S_waits B x) (fun B hB => cq_waits hB x) (fun B hB => mq_waits hB x) (fun f h => by
  unfold FX10_waits FX10_waits_0
  rw [hasDay_e, b2_some, h 1 (by decide), if_neg (show ¬ (0 ≤ x ∧ x < (0 : Int)) by omega), if_pos rfl]
  show _ = some (S_waits B0 x, f)
  unfold S_waits
  rw [if_neg (by simp only [n0D, n0C, n0K, n08]; omega)])
theorem o_room (x : Int) : Ok (FX10_room x) (FX11_room x) := Ok_c (v := fun B => S_room B x) (fun B hB => cq_room hB x) (fun B hB => mq_room hB x) (fun f h => by
  unfold FX10_room FX10_room_0
  rw [hasDay_e, b2_some, h 1 (by decide), if_neg (show ¬ (0 ≤ x ∧ x < (0 : Int)) by omega), if_pos rfl]
  show _ = some (S_room B0 x, f)
  unfold S_room
  rw [if_neg (by simp only [n0D, n0C, n0K, n08]; omega)])
theorem o_lacks (x : Int) : Ok (FX10_lacks x) (FX11_lacks x) := Ok_c (v := fun B => S_lacks B x) (fun B hB => cq_lacks hB x) (fun B hB => mq_lacks hB x) (fun f h => by
  unfold FX10_lacks FX10_lacks_0
  rw [hasCart_e, b2_some, h 5 (by decide), if_neg (show ¬ (0 ≤ x ∧ x < (0 : Int)) by omega), if_pos rfl]
  show _ = some (S_lacks B0 x, f)
  unfold S_lacks
  rw [if_neg (by simp only [n0D, n0C, n0K, n08]; omega)])
theorem o_toll (x : Int) : Ok (FX10_toll x) (FX11_toll x) := Ok_c (v := fun B => S_toll B x) (fun B hB => cq_toll hB x) (fun B hB => mq_toll hB x) (fun f h => by
  unfold FX10_toll FX10_toll_0
  rw [hasDay_e, b2_some, h 1 (by decide), if_neg (show ¬ (0 ≤ x ∧ x < (0 : Int)) by omega), if_pos rfl]
  show _ = some (S_toll B0 x, f)
  unfold S_toll
  rw [if_neg (by simp only [n0D, n0C, n0K, n08]; omega)])
theorem o_gap (x : Int) : Ok (FX10_gap x) (FX11_gap x) := Ok_c (v := fun B => S_gap B x) (fun B hB => cq_gap hB x) (fun B hB => mq_gap hB x) (fun f h => by
  unfold FX10_gap FX10_gap_0
  rw [hasDay_e, b2_some, h 1 (by decide), if_neg (show ¬ (0 ≤ x ∧ x < (0 : Int)) by omega), if_pos rfl]
  show _ = some (S_gap B0 x, f)
  unfold S_gap
  rw [if_neg (by simp only [n0D, n0C, n0K, n08]; omega)])
theorem o_kind (x : Int) : Ok (FX10_kind x) (FX11_kind x) := Ok_c (v := fun B => S_kind B x) (fun B hB => cq_kind hB x) (fun B hB => mq_kind hB x) (fun f h => by
  unfold FX10_kind FX10_kind_0
  rw [hasDay_e, b2_some, h 1 (by decide), if_neg (show ¬ (0 ≤ x ∧ x < (0 : Int)) by omega), if_pos rfl]
  show _ = some (S_kind B0 x, f)
  unfold S_kind
  rw [if_neg (by simp only [n0D, n0C, n0K, n08]; omega)])
theorem o_alone (x : Int) : Ok (FX10_alone x) (FX11_alone x) := Ok_c (v := fun B => S_alone B x) (fun B hB => cq_alone hB x) (fun B hB => mq_alone' hB x) (fun f h => by
  unfold FX10_alone FX10_alone_0
  rw [hasDeed_e, b2_some, h 4 (by decide), if_neg (show ¬ (0 ≤ x ∧ x < (0 : Int)) by omega), if_pos rfl]
  show _ = some (S_alone B0 x, f)
  unfold S_alone
  rw [if_neg (by simp only [n0D, n0C, n0K, n08]; omega)])
theorem o_abreast (x : Int) : Ok (FX10_abreast x) (FX11_abreast x) := Ok_c (v := fun B => S_abreast B x) (fun B hB => cq_abreast hB x) (fun B hB => mq_abreast hB x) (fun f h => by
  unfold FX10_abreast FX10_abreast_0
  rw [stands_e, b2_some, h 0 (by decide), if_neg (show ¬ ((0 : Int) < 0) by decide), if_pos rfl]
  show _ = some (S_abreast B0 x, f)
  unfold S_abreast
  rw [if_neg (by simp only [n0D, n0C, n0K, n08]; omega)])
theorem o_load (x : Int) : Ok (FX10_load x) (FX11_load x) := Ok_c (v := fun B => S_load B x) (fun B hB => cq_load hB x) (fun B hB => mq_load hB x) (fun f h => by
  unfold FX10_load FX10_load_0
  rw [stands_e, b2_some, h 0 (by decide), if_neg (show ¬ ((0 : Int) < 0) by decide), if_pos rfl]
  show _ = some (S_load B0 x, f)
  unfold S_load
  rw [if_neg (by simp only [n0D, n0C, n0K, n08]; omega)])
theorem o_loads (x : Int) : Ok (FX10_loads x) (FX11_loads x) := Ok_c (v := fun B => S_loads B x) (fun B hB => cq_loads hB x) (fun B hB => mq_loads hB x) (fun f h => by
  unfold FX10_loads FX10_loads_0
  rw [stands_e, b2_some, h 0 (by decide), if_neg (show ¬ ((0 : Int) < 0) by decide), if_pos rfl]
  show _ = some (S_loads B0 x, f)
  unfold S_loads
  rw [if_neg (by simp only [n0D, n0C, n0K, n08]; omega)])
theorem o_queues (x : Int) : Ok (FX10_queues x) (FX11_queues x) := Ok_c (v := fun B => S_queues B x) (fun B hB => cq_queues hB x) (fun B hB => mq_queues hB x) (fun f h => by
  unfold FX10_queues FX10_queues_0
  rw [stands_e, b2_some, h 0 (by decide), if_neg (show ¬ ((0 : Int) < 0) by decide), if_pos rfl]
  show _ = some (S_queues B0 x, f)
  unfold S_queues
  rw [if_neg (by simp only [n0D, n0C, n0K, n08]; omega)])
theorem o_rests (x : Int) : Ok (FX10_rests x) (FX11_rests x) := Ok_c (v := fun B => S_rests B x) (fun B hB => cq_rests hB x) (fun B hB => mq_rests hB x) (fun f h => by
  unfold FX10_rests FX10_rests_0
  rw [hasDay_e, b2_some, h 1 (by decide), if_neg (show ¬ (0 ≤ x ∧ x < (0 : Int)) by omega), if_pos rfl]
  show _ = some (S_rests B0 x, f)
  unfold S_rests
  rw [if_neg (by simp only [n0D, n0C, n0K, n08]; omega)])
theorem o_rest (x : Int) : Ok (FX10_rest x) (FX11_rest x) := Ok_c (v := fun B => S_rest B x) (fun B hB => cq_rest hB x) (fun B hB => mq_rest hB x) (fun f h => by
  unfold FX10_rest FX10_rest_0
  rw [hasDay_e, b2_some, h 1 (by decide), if_neg (show ¬ (0 ≤ x ∧ x < (0 : Int)) by omega), if_pos rfl]
  show _ = some (S_rest B0 x, f)
  unfold S_rest
  rw [if_neg (by simp only [n0D, n0C, n0K, n08]; omega)])
theorem o_when (x : Int) : Ok (FX10_when x) (FX11_when x) := Ok_c (v := fun B => S_when B x) (fun B hB => cq_when hB x) (fun B hB => mq_when hB x) (fun f h => by
  unfold FX10_when FX10_when_0
  rw [stands_e, b2_some, h 0 (by decide), if_neg (show ¬ ((0 : Int) < 0) by decide), if_pos rfl]
  show _ = some (S_when B0 x, f)
  unfold S_when
  rw [if_neg (by simp only [n0D, n0C, n0K, n08]; omega)])
theorem o_plan (x : Int) : Ok (FX10_plan x) (FX11_plan x) := Ok_p (v := fun B => S_plan B x) (fun B hB => pq_plan hB x) (fun B hB => mq_plan hB x) (fun f h => by
  unfold FX10_plan FX10_plan_0
  rw [hasDay_e, b2_some, h 1 (by decide), if_neg (show ¬ (0 ≤ x ∧ x < (0 : Int)) by omega), if_pos rfl]
  show _ = some (S_plan B0 x, f)
  unfold S_plan
  rw [if_neg (by simp only [n0D, n0C, n0K, n08]; omega)])
theorem o_value (x : Int) : Ok (FX10_value x) (FX11_value x) := Ok_p (v := fun B => S_value B x) (fun B hB => pq_value hB x) (fun B hB => mq_value hB x) (fun f h => by
  unfold FX10_value FX10_value_0
  rw [hasCart_e, b2_some, h 5 (by decide), if_neg (show ¬ (0 ≤ x ∧ x < (0 : Int)) by omega), if_pos rfl]
  show _ = some (S_value B0 x, f)
  unfold S_value
  rw [if_neg (by simp only [n0D, n0C, n0K, n08]; omega)])
theorem o_often (x : Int) : Ok (FX10_often x) (FX11_often x) := Ok_p (v := fun B => S_often B x) (fun B hB => pq_often hB x) (fun B hB => mq_often hB x) (fun f h => by
  unfold FX10_often FX10_often_0
  rw [hasCart_e, b2_some, h 5 (by decide), if_neg (show ¬ (0 ≤ x ∧ x < (0 : Int)) by omega), if_pos rfl]
  show _ = some (S_often B0 x, f)
  unfold S_often
  rw [if_neg (by simp only [n0D, n0C, n0K, n08]; omega)])
theorem o_cheap (x : Int) : Ok (FX10_cheap x) (FX11_cheap x) := Ok_p (v := fun B => S_cheap B x) (fun B hB => pq_cheap hB x) (fun B hB => mq_cheap hB x) (fun f h => by
  unfold FX10_cheap FX10_cheap_0
  rw [hasSet_0 _ h, b2_some, if_pos rfl]
  show _ = some (S_cheap B0 x, f)
  unfold S_cheap
  rw [if_neg (by simp only [n0D, n0C, n0K, n08]; omega)])
theorem o_soonest (x : Int) : Ok (FX10_soonest x) (FX11_soonest x) := Ok_p (v := fun B => S_soonest B x) (fun B hB => pq_soonest hB x) (fun B hB => mq_soonest hB x) (fun f h => by
  unfold FX10_soonest FX10_soonest_0
  rw [hasCart_e, b2_some, h 5 (by decide), if_neg (show ¬ (0 ≤ x ∧ x < (0 : Int)) by omega), if_pos rfl]
  show _ = some (S_soonest B0 x, f)
  unfold S_soonest
  rw [if_neg (by simp only [n0D, n0C, n0K, n08]; omega)])
theorem o_hold (x : Int) : Ok (FX10_hold x) (FX11_hold x) := Ok_p (v := fun B => S_hold B x) (fun B hB => pq_hold hB x) (fun B hB => mq_hold hB x) (fun f h => by
  unfold FX10_hold FX10_hold_0
  rw [stands_e, b2_some, h 0 (by decide), if_neg (show ¬ ((0 : Int) < 0) by decide), if_pos rfl]
  show _ = some (S_hold B0 x, f)
  unfold S_hold
  rw [if_neg (by simp only [n0D, n0C, n0K, n08]; omega)])
theorem o_most (x : Int) : Ok (FX10_most x) (FX11_most x) := Ok_p (v := fun B => S_most B x) (fun B hB => pq_most hB x) (fun B hB => mq_most hB x) (fun f h => by
  unfold FX10_most FX10_most_0
  rw [hasDay_e, b2_some, h 1 (by decide), if_neg (show ¬ (0 ≤ x ∧ x < (0 : Int)) by omega), if_pos rfl]
  show _ = some (S_most B0 x, f)
  unfold S_most
  rw [if_neg (by simp only [n0D, n0C, n0K, n08]; omega)])
theorem o_deed (x y : Int) : Ok (FX10_deed x y) (FX11_deed x y) := Ok_c (v := fun B => S_deed B x y) (fun B hB => cq_deed hB x y) (fun B hB => mq_deed hB x y) (fun f h => by
  unfold FX10_deed FX10_deed_0
  rw [hasDeed_e, b2_some, h 4 (by decide), if_neg (show ¬ (0 ≤ x ∧ x < (0 : Int)) by omega), if_pos rfl]
  show _ = some (S_deed B0 x y, f)
  unfold S_deed
  rw [if_neg (by simp only [n0D, n0C, n0K, n08]; omega)])
theorem o_cart (x y : Int) : Ok (FX10_cart x y) (FX11_cart x y) := Ok_c (v := fun B => S_cart B x y) (fun B hB => cq_cart hB x y) (fun B hB => mq_cart hB x y) (fun f h => by
  unfold FX10_cart FX10_cart_0
  rw [hasCart_e, b2_some, h 5 (by decide), if_neg (show ¬ (0 ≤ x ∧ x < (0 : Int)) by omega), if_pos rfl]
  show _ = some (S_cart B0 x y, f)
  unfold S_cart
  rw [if_neg (by simp only [n0D, n0C, n0K, n08]; omega)])
theorem o_feels (x y : Int) : Ok (FX10_feels x y) (FX11_feels x y) := Ok_c (v := fun B => S_feels B x y) (fun B hB => cq_feels hB x y) (fun B hB => mq_feels hB x y) (fun f h => by
  unfold FX10_feels FX10_feels_0
  have hd : FX0_hasDay_4 y f = some (0, f) := by rw [hasDay_e, h 1 (by decide), if_neg (show ¬ (0 ≤ y ∧ y < (0 : Int)) by omega)]
  have hs : ∃ b, FX10_isSide x f = some (b, f) := by unfold FX10_isSide FX10_isSide_0 FX10_isSide_9; split; exact ⟨_, rfl⟩; split; exact ⟨_, rfl⟩; exact ⟨_, rfl⟩
  obtain ⟨b, hs⟩ := hs
  have hv : S_feels B0 x y = -1000 := by unfold S_feels; rw [if_neg (by simp only [n0D]; omega)]
  rw [hs, b2_some]
  by_cases q : b = 0
  · rw [if_pos q]; show _ = some (S_feels B0 x y, f); rw [hv]
  · rw [if_neg q, hd, b2_some, if_pos rfl]; show _ = some (S_feels B0 x y, f); rw [hv])
theorem o_drawn (x y : Int) : Ok (FX10_drawn x y) (FX11_drawn x y) := Ok_c (v := fun B => S_drawn B x y) (fun B hB => cq_drawn hB x y) (fun B hB => mq_drawn hB x y) (fun f h => by
  unfold FX10_drawn FX10_drawn_0
  rw [stands_e, b2_some, h 0 (by decide), if_neg (show ¬ ((0 : Int) < 0) by decide), if_pos rfl]
  show _ = some (S_drawn B0 x y, f)
  unfold S_drawn
  rw [if_neg (by simp only [n0D, n0C, n0K, n08]; omega)])
theorem o_cheaply (x y : Int) : Ok (FX10_cheaply x y) (FX11_cheaply x y) := Ok_p (v := fun B => S_cheaply B x y) (fun B hB => pq_cheaply hB x y) (fun B hB => mq_cheaply hB x y) (fun f h => by
  unfold FX10_cheaply FX10_cheaply_0
  rw [hasSet_0 _ h, b2_some, if_pos rfl]
  show _ = some (S_cheaply B0 x y, f)
  unfold S_cheaply
  rw [if_neg (by simp only [n0D, n0C, n0K, n08]; omega)])
theorem o_chance (x y z : Int) : Ok (FX10_chance x y z) (FX11_chance x y z) := Ok_c (v := fun B => S_chance B x y z) (fun B hB => cq_chance hB x y z) (fun B hB => mq_chance hB x y z) (fun f h => by
  unfold FX10_chance FX10_chance_0
  rw [hasDay_e, b2_some, h 1 (by decide), if_neg (show ¬ (0 ≤ x ∧ x < (0 : Int)) by omega), if_pos rfl]
  show _ = some (S_chance B0 x y z, f)
  unfold S_chance
  rw [if_neg (by simp only [n0D, n0C, n0K, n08]; omega)])
theorem o_luck (x y z : Int) : Ok (FX10_luck x y z) (FX11_luck x y z) := Ok_c (v := fun B => S_luck B x y z) (fun B hB => cq_luck hB x y z) (fun B hB => mq_luck hB x y z) (fun f h => by
  unfold FX10_luck FX10_luck_0
  rw [hasCart_e, b2_some, h 5 (by decide), if_neg (show ¬ (0 ≤ z ∧ z < (0 : Int)) by omega), if_pos rfl]
  show _ = some (S_luck B0 x y z, f)
  unfold S_luck
  rw [if_neg (by simp only [n0D, n0C, n0K, n08]; omega)])
theorem o_has (x y z w : Int) : Ok (FX10_has x y z w) (FX11_has x y z w) := Ok_c (v := fun B => S_has B x y z w) (fun B hB => cq_has hB x y z w) (fun B hB => mq_has hB x y z w) (fun f h => by
  unfold FX10_has FX10_has_0
  have hd : FX0_hasDay_4 w f = some (0, f) := by rw [hasDay_e, h 1 (by decide), if_neg (show ¬ (0 ≤ w ∧ w < (0 : Int)) by omega)]
  have hs : ∃ b, FX10_isSide x f = some (b, f) := by unfold FX10_isSide FX10_isSide_0 FX10_isSide_9; split; exact ⟨_, rfl⟩; split; exact ⟨_, rfl⟩; exact ⟨_, rfl⟩
  obtain ⟨b, hs⟩ := hs
  have hv : S_has B0 x y z w = -1000000 := by unfold S_has; rw [if_neg (by simp only [n0D]; omega)]
  rw [hs, b2_some]
  by_cases q : b = 0
  · rw [if_pos q]; show _ = some (S_has B0 x y z w, f); rw [hv]
  · rw [if_neg q, hd, b2_some, if_pos rfl]; show _ = some (S_has B0 x y z w, f); rw [hv])
theorem o_fits (x : Int) : Ok (FX10_fits x) (FX11_fits x) := Ok_z (v := fun B Z => S_fits B Z x) (fun B Z hB hZ => zc_fits hB hZ x) (fun B Z hB hZ => zm_fits hB hZ x) (fun Z f h => by
  unfold FX10_fits FX10_fits_0
  rw [wW_c _ h, b2_some, if_neg (show ¬ (-2 : Int) = 0 by decide)]
  show _ = some (S_fits B0 Z x, f)
  unfold S_fits S_zz
  rw [wWo, if_neg (show ¬ (-2 : Int) = 0 by decide)])
theorem o_slights (x : Int) : Ok (FX10_slights x) (FX11_slights x) := Ok_z (v := fun B Z => S_slights B Z x) (fun B Z hB hZ => zc_slights hB hZ x) (fun B Z hB hZ => zm_slights hB hZ x) (fun Z f h => by
  unfold FX10_slights FX10_slights_0
  rw [wW_c _ h, b2_some, if_neg (show ¬ (-2 : Int) = 0 by decide)]
  show _ = some (S_slights B0 Z x, f)
  unfold S_slights S_zz
  rw [wWo, if_neg (show ¬ (-2 : Int) = 0 by decide)])
theorem o_slight (x : Int) : Ok (FX10_slight x) (FX11_slight x) := Ok_z (v := fun B Z => S_slight B Z x) (fun B Z hB hZ => zc_slight hB hZ x) (fun B Z hB hZ => zm_slight hB hZ x) (fun Z f h => by
  unfold FX10_slight FX10_slight_0
  rw [wW_c _ h, b2_some, if_neg (show ¬ (-2 : Int) = 0 by decide)]
  show _ = some (S_slight B0 Z x, f)
  unfold S_slight S_zz
  rw [wWo, if_neg (show ¬ (-2 : Int) = 0 by decide)])
theorem o_ask (x : Int) : Ok (FX10_ask x) (FX11_ask x) := Ok_z (v := fun B Z => S_ask B Z x) (fun B Z hB hZ => zc_ask hB hZ x) (fun B Z hB hZ => zm_ask hB hZ x) (fun Z f h => by
  unfold FX10_ask FX10_ask_0
  rw [wW_c _ h, b2_some, if_neg (show ¬ (-2 : Int) = 0 by decide)]
  show _ = some (S_ask B0 Z x, f)
  unfold S_ask S_zz
  rw [wWo, if_neg (show ¬ (-2 : Int) = 0 by decide)])
theorem o_leaves (x : Int) : Ok (FX10_leaves x) (FX11_leaves x) := Ok_z (v := fun B Z => S_leaves B Z x) (fun B Z hB hZ => zc_leaves hB hZ x) (fun B Z hB hZ => zm_leaves hB hZ x) (fun Z f h => by
  unfold FX10_leaves FX10_leaves_0
  rw [wW_c _ h, b2_some, if_neg (show ¬ (-2 : Int) = 0 by decide)]
  show _ = some (S_leaves B0 Z x, f)
  unfold S_leaves S_zz
  rw [wWo, if_neg (show ¬ (-2 : Int) = 0 by decide)])
theorem o_cools (x : Int) : Ok (FX10_cools x) (FX11_cools x) := Ok_z (v := fun B Z => S_cools B Z x) (fun B Z hB hZ => zc_cools hB hZ x) (fun B Z hB hZ => zm_cools hB hZ x) (fun Z f h => by
  unfold FX10_cools FX10_cools_0
  rw [wW_c _ h, b2_some, if_neg (show ¬ (-2 : Int) = 0 by decide)]
  show _ = some (S_cools B0 Z x, f)
  unfold S_cools S_zz
  rw [wWo, if_neg (show ¬ (-2 : Int) = 0 by decide)])
theorem o_cool (x : Int) : Ok (FX10_cool x) (FX11_cool x) := Ok_z (v := fun B Z => S_cool B Z x) (fun B Z hB hZ => zc_cool hB hZ x) (fun B Z hB hZ => zm_cool hB hZ x) (fun Z f h => by
  unfold FX10_cool FX10_cool_0
  rw [wW_c _ h, b2_some, if_neg (show ¬ (-2 : Int) = 0 by decide)]
  show _ = some (S_cool B0 Z x, f)
  unfold S_cool S_zz
  rw [wWo, if_neg (show ¬ (-2 : Int) = 0 by decide)])
theorem o_fair (x : Int) : Ok (FX10_fair x) (FX11_fair x) := Ok_zp (v := fun B Z => S_fair B Z x) (fun B Z hB hZ => zp_fair hB x) (fun B Z hB hZ => zm_fair hB hZ x) (fun Z f h => by
  unfold FX10_fair FX10_fair_0
  rw [wS_c _ h, b2_some, if_neg (show ¬ (-2 : Int) = 0 by decide)]
  show _ = some (S_fair B0 Z x, f)
  unfold S_fair
  rw [wSo, if_neg (show ¬ (-2 : Int) = 0 by decide)])
theorem o_leave (x : Int) : Ok (FX10_leave x) (FX11_leave x) := Ok_zp (v := fun B Z => S_leave B Z x) (fun B Z hB hZ => zp_leave hB x) (fun B Z hB hZ => zm_leave hB hZ x) (fun Z f h => by
  unfold FX10_leave FX10_leave_0
  rw [wS_c _ h, b2_some, if_neg (show ¬ (-2 : Int) = 0 by decide)]
  show _ = some (S_leave B0 Z x, f)
  unfold S_leave
  rw [wSo, if_neg (show ¬ (-2 : Int) = 0 by decide)])
