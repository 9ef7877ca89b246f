/-! each call, with all that is kept (written by a program) -/
theorem L_feed {m : jM} {x1 x2 x3 x4 x5 : Int} (hL : Lay m) (h : allI m) (hs : m 11 5 + 10000 ≤ 20000000) : ML iX10_feed [(2, 0), (0, x1), (0, x2), (0, x3), (0, x4), (0, x5)] m (fun r m1 => ML iX11_feed [(2, 139), (0, x1), (0, x2), (0, x3), (0, x4), (0, x5)] m1 (fun r' m2 => r = r' ∧ nx m m2)) := by
  refine ML_mono (p_feed h.1.1) (fun r m1 g => ML_mono g (fun r' m2 q => ⟨q.1, ?_⟩))
  · have f := q.2.2
    exact nx_a h q.2.1 (snInv_cg (agr_of f (by decide)) h.1.2.2.1) (teInv_cg (agr_of f (by decide)) h.1.2.2.2.1) (crInv_cg (agr_of f (by decide)) h.1.2.2.2.2) (agr_of f (by decide))
theorem L_back {m : jM} {x1 : Int} (hL : Lay m) (h : allI m) (hs : m 11 5 + 10000 ≤ 20000000) : ML iX10_back [(2, 0), (0, x1)] m (fun r m1 => ML iX11_back [(2, 139), (0, x1)] m1 (fun r' m2 => r = r' ∧ nx m m2)) := by
  refine ML_mono (p_back h.1.1) (fun r m1 g => ML_mono g (fun r' m2 q => ⟨q.1, ?_⟩))
  · have f := q.2.2
    exact nx_a h q.2.1 (snInv_cg (agr_of f (by decide)) h.1.2.2.1) (teInv_cg (agr_of f (by decide)) h.1.2.2.2.1) (crInv_cg (agr_of f (by decide)) h.1.2.2.2.2) (agr_of f (by decide))
theorem L_read {m : jM} {x1 : Int} (hL : Lay m) (h : allI m) (hs : m 11 5 + 10000 ≤ 20000000) : ML iX10_read [(2, 0), (0, x1)] m (fun r m1 => ML iX11_read [(2, 139), (0, x1)] m1 (fun r' m2 => r = r' ∧ nx m m2)) := by
  refine ML_mono (p_read h.1.1 h.2.2.1 (lay_ut hL) h.2.1.1) (fun r m1 g => ML_mono g (fun r' m2 q => ⟨q.1, ?_⟩))
  · exact nx_r h q.2
theorem L_place {m : jM} (hL : Lay m) (h : allI m) (hs : m 11 5 + 10000 ≤ 20000000) : ML iX10_place [(2, 0)] m (fun r m1 => ML iX11_place [(2, 139)] m1 (fun r' m2 => r = r' ∧ nx m m2)) := by
  refine ML_mono (p_place h.2.2.2) (fun r m1 g => ML_mono g (fun r' m2 q => ⟨q.1, ?_⟩))
  · exact nx_rf h q.2
theorem L_child {m : jM} {x1 x2 x3 x4 : Int} (hL : Lay m) (h : allI m) (hs : m 11 5 + 10000 ≤ 20000000) : ML iX10_child [(2, 0), (0, x1), (0, x2), (0, x3), (0, x4)] m (fun r m1 => ML iX11_child [(2, 139), (0, x1), (0, x2), (0, x3), (0, x4)] m1 (fun r' m2 => r = r' ∧ nx m m2)) := by
  refine ML_mono (p_child h.1.2.1) (fun r m1 g => ML_mono g (fun r' m2 q => ⟨q.1, ?_⟩))
  · exact nx_b h q.2.1 q.2.2
theorem L_move {m : jM} {x1 x2 x3 x4 : Int} (hL : Lay m) (h : allI m) (hs : m 11 5 + 10000 ≤ 20000000) : ML iX10_move [(2, 0), (0, x1), (0, x2), (0, x3), (0, x4)] m (fun r m1 => ML iX11_move [(2, 139), (0, x1), (0, x2), (0, x3), (0, x4)] m1 (fun r' m2 => r = r' ∧ nx m m2)) := by
  refine ML_mono (p_move h.1.2.1) (fun r m1 g => ML_mono g (fun r' m2 q => ⟨q.1, ?_⟩))
  · exact nx_b h q.2.1 q.2.2
theorem L_shut {m : jM} {x1 x2 x3 : Int} (hL : Lay m) (h : allI m) (hs : m 11 5 + 10000 ≤ 20000000) : ML iX10_shut [(2, 0), (0, x1), (0, x2), (0, x3)] m (fun r m1 => ML iX11_shut [(2, 139), (0, x1), (0, x2), (0, x3)] m1 (fun r' m2 => r = r' ∧ nx m m2)) := by
  refine ML_mono (p_shut h.1.2.1) (fun r m1 g => ML_mono g (fun r' m2 q => ⟨q.1, ?_⟩))
  · exact nx_b h q.2.1 q.2.2
theorem L_part {m : jM} {x1 x2 : Int} (hL : Lay m) (h : allI m) (hs : m 11 5 + 10000 ≤ 20000000) : ML iX10_part [(2, 0), (0, x1), (0, x2)] m (fun r m1 => ML iX11_part [(2, 139), (0, x1), (0, x2)] m1 (fun r' m2 => r = r' ∧ nx m m2)) := by
  refine ML_mono (p_part h.1.2.1) (fun r m1 g => ML_mono g (fun r' m2 q => ⟨q.1, ?_⟩))
  · exact nx_b h q.2.1 q.2.2
theorem L_tap {m : jM} {x1 x2 x3 x4 : Int} (hL : Lay m) (h : allI m) (hs : m 11 5 + 10000 ≤ 20000000) : ML iX10_tap [(2, 0), (0, x1), (0, x2), (0, x3), (0, x4)] m (fun r m1 => ML iX11_tap [(2, 139), (0, x1), (0, x2), (0, x3), (0, x4)] m1 (fun r' m2 => r = r' ∧ nx m m2)) := by
  refine ML_mono (p_tap h.1.2.1) (fun r m1 g => ML_mono g (fun r' m2 q => ⟨q.1, ?_⟩))
  · exact nx_b h q.2.1 q.2.2
theorem L_annul {m : jM} {x1 : Int} (hL : Lay m) (h : allI m) (hs : m 11 5 + 10000 ≤ 20000000) : ML iX10_annul [(2, 0), (0, x1)] m (fun r m1 => ML iX11_annul [(2, 139), (0, x1)] m1 (fun r' m2 => r = r' ∧ nx m m2)) := by
  refine ML_mono (p_annul h.1.2.1) (fun r m1 g => ML_mono g (fun r' m2 q => ⟨q.1, ?_⟩))
  · exact nx_b h q.2.1 q.2.2
theorem L_force {m : jM} {x1 : Int} (hL : Lay m) (h : allI m) (hs : m 11 5 + 10000 ≤ 20000000) : ML iX10_force [(2, 0), (0, x1)] m (fun r m1 => ML iX11_force [(2, 139), (0, x1)] m1 (fun r' m2 => r = r' ∧ nx m m2)) := by
  refine ML_mono (p_force h.2.1.1) (fun r m1 g => ML_mono g (fun r' m2 q => ⟨q.1, ?_⟩))
  · exact nx_rf h q.2
theorem L_home {m : jM} {x1 x2 x3 : Int} (hL : Lay m) (h : allI m) (hs : m 11 5 + 10000 ≤ 20000000) : ML iX10_home [(2, 0), (0, x1), (0, x2), (0, x3)] m (fun r m1 => ML iX11_home [(2, 139), (0, x1), (0, x2), (0, x3)] m1 (fun r' m2 => r = r' ∧ nx m m2)) := by
  refine ML_mono (p_home h.1.2.1) (fun r m1 g => ML_mono g (fun r' m2 q => ⟨q.1, ?_⟩))
  · exact nx_rf h q.2
theorem L_dist {m : jM} {x1 x2 x3 x4 x5 : Int} (hL : Lay m) (h : allI m) (hs : m 11 5 + 10000 ≤ 20000000) : ML iX10_dist [(2, 0), (0, x1), (0, x2), (0, x3), (0, x4), (0, x5)] m (fun r m1 => ML iX11_dist [(2, 139), (0, x1), (0, x2), (0, x3), (0, x4), (0, x5)] m1 (fun r' m2 => r = r' ∧ nx m m2)) := by
  refine ML_mono (p_dist (qI_of h (by omega))) (fun r m1 g => ML_mono g (fun r' m2 q => ⟨q.1, ?_⟩))
  · exact nx_Q h q.2
theorem L_row {m : jM} {x1 x2 x3 x4 x5 x6 : Int} (hL : Lay m) (h : allI m) (hs : m 11 5 + 10000 ≤ 20000000) : ML iX10_row [(2, 0), (0, x1), (0, x2), (0, x3), (0, x4), (0, x5), (0, x6)] m (fun r m1 => ML iX11_row [(2, 139), (0, x1), (0, x2), (0, x3), (0, x4), (0, x5), (0, x6)] m1 (fun r' m2 => r = r' ∧ nx m m2)) := by
  refine ML_mono (p_row (qI_of h (by omega))) (fun r m1 g => ML_mono g (fun r' m2 q => ⟨q.1, ?_⟩))
  · exact nx_Q h q.2
theorem L_right {m : jM} {x1 x2 x3 : Int} (hL : Lay m) (h : allI m) (hs : m 11 5 + 10000 ≤ 20000000) : ML iX10_right [(2, 0), (0, x1), (0, x2), (0, x3)] m (fun r m1 => ML iX11_right [(2, 139), (0, x1), (0, x2), (0, x3)] m1 (fun r' m2 => r = r' ∧ nx m m2)) := by
  refine ML_mono (p_right (qI_of h (by omega))) (fun r m1 g => ML_mono g (fun r' m2 q => ⟨q.1, ?_⟩))
  · exact nx_Q h q.2
theorem L_altered {m : jM} {x1 x2 x3 : Int} (hL : Lay m) (h : allI m) (hs : m 11 5 + 10000 ≤ 20000000) : ML iX10_altered [(2, 0), (0, x1), (0, x2), (0, x3)] m (fun r m1 => ML iX11_altered [(2, 139), (0, x1), (0, x2), (0, x3)] m1 (fun r' m2 => r = r' ∧ nx m m2)) := by
  refine ML_mono (p_altered (qI_of h (by omega)) hs h.2.1.2.2.1 h.2.1.2.2.2) (fun r m1 g => ML_mono g (fun r' m2 q => ⟨q.1, ?_⟩))
  · exact nx_F h q.2 (by decide)
theorem L_stop {m : jM} {x1 x2 x3 : Int} (hL : Lay m) (h : allI m) (hs : m 11 5 + 10000 ≤ 20000000) : ML iX10_stop [(2, 0), (0, x1), (0, x2), (0, x3)] m (fun r m1 => ML iX11_stop [(2, 139), (0, x1), (0, x2), (0, x3)] m1 (fun r' m2 => r = r' ∧ nx m m2)) := by
  refine ML_mono (p_stop (qI_of h (by omega))) (fun r m1 g => ML_mono g (fun r' m2 q => ⟨q.1, ?_⟩))
  · exact nx_Q h q.2
theorem L_load {m : jM} {x1 x2 x3 x4 : Int} (hL : Lay m) (h : allI m) (hs : m 11 5 + 10000 ≤ 20000000) : ML iX10_load [(2, 0), (0, x1), (0, x2), (0, x3), (0, x4)] m (fun r m1 => ML iX11_load [(2, 139), (0, x1), (0, x2), (0, x3), (0, x4)] m1 (fun r' m2 => r = r' ∧ nx m m2)) := by
  refine ML_mono (p_load (qI_of h (by omega)) h.2.1.2.2.1) (fun r m1 g => ML_mono g (fun r' m2 q => ⟨q.1, ?_⟩))
  · exact nx_P h q.2
theorem L_route {m : jM} {x1 x2 x3 x4 : Int} (hL : Lay m) (h : allI m) (hs : m 11 5 + 10000 ≤ 20000000) : ML iX10_route [(2, 0), (0, x1), (0, x2), (0, x3), (0, x4)] m (fun r m1 => ML iX11_route [(2, 139), (0, x1), (0, x2), (0, x3), (0, x4)] m1 (fun r' m2 => r = r' ∧ nx m m2)) := by
  refine ML_mono (p_route (qI_of h (by omega)) h.2.1.2.2.1) (fun r m1 g => ML_mono g (fun r' m2 q => ⟨q.1, ?_⟩))
  · exact nx_P h q.2
theorem L_routeStop {m : jM} {x1 x2 x3 x4 x5 : Int} (hL : Lay m) (h : allI m) (hs : m 11 5 + 10000 ≤ 20000000) : ML iX10_routeStop [(2, 0), (0, x1), (0, x2), (0, x3), (0, x4), (0, x5)] m (fun r m1 => ML iX11_routeStop [(2, 139), (0, x1), (0, x2), (0, x3), (0, x4), (0, x5)] m1 (fun r' m2 => r = r' ∧ nx m m2)) := by
  refine ML_mono (p_routeStop (qI_of h (by omega)) h.2.1.2.2.1) (fun r m1 g => ML_mono g (fun r' m2 q => ⟨q.1, ?_⟩))
  · exact nx_P h q.2
theorem L_good {m : jM} {x1 x2 x3 x4 : Int} (hL : Lay m) (h : allI m) (hs : m 11 5 + 10000 ≤ 20000000) : ML iX10_good [(2, 0), (0, x1), (0, x2), (0, x3), (0, x4)] m (fun r m1 => ML iX11_good [(2, 139), (0, x1), (0, x2), (0, x3), (0, x4)] m1 (fun r' m2 => r = r' ∧ nx m m2)) := by
  refine ML_mono (p_good (qI_of h (by omega)) h.2.1.2.2.1) (fun r m1 g => ML_mono g (fun r' m2 q => ⟨q.1, ?_⟩))
  · exact nx_P h q.2
theorem L_pay {m : jM} {x1 x2 x3 : Int} (hL : Lay m) (h : allI m) (hs : m 11 5 + 10000 ≤ 20000000) : ML iX10_pay [(2, 0), (0, x1), (0, x2), (0, x3)] m (fun r m1 => ML iX11_pay [(2, 139), (0, x1), (0, x2), (0, x3)] m1 (fun r' m2 => r = r' ∧ nx m m2)) := by
  refine ML_mono (p_pay (qI_of h (by omega)) h.2.1.2.2.1) (fun r m1 g => ML_mono g (fun r' m2 q => ⟨q.1, ?_⟩))
  · exact nx_P h q.2
theorem L_routes {m : jM} {x1 x2 x3 : Int} (hL : Lay m) (h : allI m) (hs : m 11 5 + 10000 ≤ 20000000) : ML iX10_routes [(2, 0), (0, x1), (0, x2), (0, x3)] m (fun r m1 => ML iX11_routes [(2, 139), (0, x1), (0, x2), (0, x3)] m1 (fun r' m2 => r = r' ∧ nx m m2)) := by
  refine ML_mono (p_routes (qI_of h (by omega)) h.2.1.2.2.1) (fun r m1 g => ML_mono g (fun r' m2 q => ⟨q.1, ?_⟩))
  · exact nx_P h q.2
theorem L_routeSet {m : jM} {x1 x2 x3 x4 : Int} (hL : Lay m) (h : allI m) (hs : m 11 5 + 10000 ≤ 20000000) : ML iX10_routeSet [(2, 0), (0, x1), (0, x2), (0, x3), (0, x4)] m (fun r m1 => ML iX11_routeSet [(2, 139), (0, x1), (0, x2), (0, x3), (0, x4)] m1 (fun r' m2 => r = r' ∧ nx m m2)) := by
  refine ML_mono (p_routeSet (qI_of h (by omega)) h.2.1.2.2.1) (fun r m1 g => ML_mono g (fun r' m2 q => ⟨q.1, ?_⟩))
  · exact nx_P h q.2
theorem L_taxis {m : jM} {x1 x2 x3 : Int} (hL : Lay m) (h : allI m) (hs : m 11 5 + 10000 ≤ 20000000) : ML iX10_taxis [(2, 0), (0, x1), (0, x2), (0, x3)] m (fun r m1 => ML iX11_taxis [(2, 139), (0, x1), (0, x2), (0, x3)] m1 (fun r' m2 => r = r' ∧ nx m m2)) := by
  refine ML_mono (p_taxis (qI_of h (by omega)) h.2.1.2.2.1) (fun r m1 g => ML_mono g (fun r' m2 q => ⟨q.1, ?_⟩))
  · exact nx_P h q.2
theorem L_fewest {m : jM} {x1 x2 x3 : Int} (hL : Lay m) (h : allI m) (hs : m 11 5 + 10000 ≤ 20000000) : ML iX10_fewest [(2, 0), (0, x1), (0, x2), (0, x3)] m (fun r m1 => ML iX11_fewest [(2, 139), (0, x1), (0, x2), (0, x3)] m1 (fun r' m2 => r = r' ∧ nx m m2)) := by
  refine ML_mono (p_fewest (qI_of h (by omega)) h.2.1.2.2.1) (fun r m1 g => ML_mono g (fun r' m2 q => ⟨q.1, ?_⟩))
  · exact nx_P h q.2
theorem L_fleet {m : jM} {x1 x2 : Int} (hL : Lay m) (h : allI m) (hs : m 11 5 + 10000 ≤ 20000000) : ML iX10_fleet [(2, 0), (0, x1), (0, x2)] m (fun r m1 => ML iX11_fleet [(2, 139), (0, x1), (0, x2)] m1 (fun r' m2 => r = r' ∧ nx m m2)) := by
  refine ML_mono (p_fleet (qI_of h (by omega)) h.2.1.2.2.1 h.2.1.2.2.2) (fun r m1 g => ML_mono g (fun r' m2 q => ⟨q.1, ?_⟩))
  · exact nx_F h q.2 (by decide)
theorem L_shifted {m : jM} {x1 x2 : Int} (hL : Lay m) (h : allI m) (hs : m 11 5 + 10000 ≤ 20000000) : ML iX10_shifted [(2, 0), (0, x1), (0, x2)] m (fun r m1 => ML iX11_shifted [(2, 139), (0, x1), (0, x2)] m1 (fun r' m2 => r = r' ∧ nx m m2)) := by
  refine ML_mono (p_shifted (qI_of h (by omega)) h.2.1.2.2.1 h.2.1.2.2.2) (fun r m1 g => ML_mono g (fun r' m2 q => ⟨q.1, ?_⟩))
  · exact nx_F h q.2 (by decide)
theorem L_shift {m : jM} {x1 x2 x3 : Int} (hL : Lay m) (h : allI m) (hs : m 11 5 + 10000 ≤ 20000000) : ML iX10_shift [(2, 0), (0, x1), (0, x2), (0, x3)] m (fun r m1 => ML iX11_shift [(2, 139), (0, x1), (0, x2), (0, x3)] m1 (fun r' m2 => r = r' ∧ nx m m2)) := by
  refine ML_mono (p_shift (qI_of h (by omega)) h.2.1.2.2.1 h.2.1.2.2.2) (fun r m1 g => ML_mono g (fun r' m2 q => ⟨q.1, ?_⟩))
  · exact nx_F h q.2 (by decide)
theorem L_bid {m : jM} {x1 x2 x3 : Int} (hL : Lay m) (h : allI m) (hs : m 11 5 + 10000 ≤ 20000000) : ML iX10_bid [(2, 0), (0, x1), (0, x2), (0, x3)] m (fun r m1 => ML iX11_bid [(2, 139), (0, x1), (0, x2), (0, x3)] m1 (fun r' m2 => r = r' ∧ nx m m2)) := by
  refine ML_mono (p_bid h.1.2.2.2.1) (fun r m1 g => ML_mono g (fun r' m2 q => ⟨q.1, ?_⟩))
  · have f := q.2.2
    exact nx_a h (tpInv_cg (agr_of f (by decide)) h.1.1) (snInv_cg (agr_of f (by decide)) h.1.2.2.1) q.2.1 (crInv_cg (agr_of f (by decide)) h.1.2.2.2.2) (agr_of f (by decide))
theorem L_award {m : jM} {x1 x2 : Int} (hL : Lay m) (h : allI m) (hs : m 11 5 + 10000 ≤ 20000000) : ML iX10_award [(2, 0), (0, x1), (0, x2)] m (fun r m1 => ML iX11_award [(2, 139), (0, x1), (0, x2)] m1 (fun r' m2 => r = r' ∧ nx m m2)) := by
  refine ML_mono (p_award h.1.2.2.2.1) (fun r m1 g => ML_mono g (fun r' m2 q => ⟨q.1, ?_⟩))
  · have f := q.2.2
    exact nx_a h (tpInv_cg (agr_of f (by decide)) h.1.1) (snInv_cg (agr_of f (by decide)) h.1.2.2.1) q.2.1 (crInv_cg (agr_of f (by decide)) h.1.2.2.2.2) (agr_of f (by decide))
theorem L_awarded {m : jM} {x1 x2 x3 : Int} (hL : Lay m) (h : allI m) (hs : m 11 5 + 10000 ≤ 20000000) : ML iX10_awarded [(2, 0), (0, x1), (0, x2), (0, x3)] m (fun r m1 => ML iX11_awarded [(2, 139), (0, x1), (0, x2), (0, x3)] m1 (fun r' m2 => r = r' ∧ nx m m2)) := by
  refine ML_mono (p_awarded h.1.2.2.2.1) (fun r m1 g => ML_mono g (fun r' m2 q => ⟨q.1, ?_⟩))
  · have f := q.2.2
    exact nx_a h (tpInv_cg (agr_of f (by decide)) h.1.1) (snInv_cg (agr_of f (by decide)) h.1.2.2.1) q.2.1 (crInv_cg (agr_of f (by decide)) h.1.2.2.2.2) (agr_of f (by decide))
theorem L_driver {m : jM} {x1 : Int} (hL : Lay m) (h : allI m) (hs : m 11 5 + 10000 ≤ 20000000) : ML iX10_driver [(2, 0), (0, x1)] m (fun r m1 => ML iX11_driver [(2, 139), (0, x1)] m1 (fun r' m2 => r = r' ∧ nx m m2)) := by
  refine ML_mono (p_driver h.1.2.2.2.2) (fun r m1 g => ML_mono g (fun r' m2 q => ⟨q.1, ?_⟩))
  · have f := q.2.2
    exact nx_a h (tpInv_cg (agr_of f (by decide)) h.1.1) (snInv_cg (agr_of f (by decide)) h.1.2.2.1) (teInv_cg (agr_of f (by decide)) h.1.2.2.2.1) q.2.1 (agr_of f (by decide))
theorem L_leave {m : jM} {x1 x2 : Int} (hL : Lay m) (h : allI m) (hs : m 11 5 + 10000 ≤ 20000000) (hb : x2 = 0 ∨ x2 = 1) : ML iX10_leave [(2, 0), (0, x1), (0, x2)] m (fun r m1 => ML iX11_leave [(2, 139), (0, x1), (0, x2)] m1 (fun r' m2 => r = r' ∧ nx m m2)) := by
  refine ML_mono (p_leave h.1.2.2.2.2 hb) (fun r m1 g => ML_mono g (fun r' m2 q => ⟨q.1, ?_⟩))
  · have f := q.2.2
    exact nx_a h (tpInv_cg (agr_of f (by decide)) h.1.1) (snInv_cg (agr_of f (by decide)) h.1.2.2.1) (teInv_cg (agr_of f (by decide)) h.1.2.2.2.1) q.2.1 (agr_of f (by decide))
theorem L_weigh {m : jM} {x1 x2 : Int} (hL : Lay m) (h : allI m) (hs : m 11 5 + 10000 ≤ 20000000) : ML iX10_weigh [(2, 0), (0, x1), (0, x2)] m (fun r m1 => ML iX11_weigh [(2, 139), (0, x1), (0, x2)] m1 (fun r' m2 => r = r' ∧ nx m m2)) := by
  refine ML_mono (p_weigh h.1.2.2.2.2) (fun r m1 g => ML_mono g (fun r' m2 q => ⟨q.1, ?_⟩))
  · have f := q.2.2
    exact nx_a h (tpInv_cg (agr_of f (by decide)) h.1.1) (snInv_cg (agr_of f (by decide)) h.1.2.2.1) (teInv_cg (agr_of f (by decide)) h.1.2.2.2.1) q.2.1 (agr_of f (by decide))
theorem L_cover {m : jM} {x1 : Int} (hL : Lay m) (h : allI m) (hs : m 11 5 + 10000 ≤ 20000000) : ML iX10_cover [(2, 0), (0, x1)] m (fun r m1 => ML iX11_cover [(2, 139), (0, x1)] m1 (fun r' m2 => r = r' ∧ nx m m2)) := by
  refine ML_mono (p_cover h.1.2.2.2.2) (fun r m1 g => ML_mono g (fun r' m2 q => ⟨q.1, ?_⟩))
  · have f := q.2.2
    exact nx_a h (tpInv_cg (agr_of f (by decide)) h.1.1) (snInv_cg (agr_of f (by decide)) h.1.2.2.1) (teInv_cg (agr_of f (by decide)) h.1.2.2.2.1) q.2.1 (agr_of f (by decide))
theorem L_drives {m : jM} {x1 x2 : Int} (hL : Lay m) (h : allI m) (hs : m 11 5 + 10000 ≤ 20000000) : ML iX10_drives [(2, 0), (0, x1), (0, x2)] m (fun r m1 => ML iX11_drives [(2, 139), (0, x1), (0, x2)] m1 (fun r' m2 => r = r' ∧ nx m m2)) := by
  refine ML_mono (p_drives h.1.2.2.2.2) (fun r m1 g => ML_mono g (fun r' m2 q => ⟨q.1, ?_⟩))
  · have f := q.2.2
    exact nx_a h (tpInv_cg (agr_of f (by decide)) h.1.1) (snInv_cg (agr_of f (by decide)) h.1.2.2.1) (teInv_cg (agr_of f (by decide)) h.1.2.2.2.1) q.2.1 (agr_of f (by decide))
theorem L_call {m : jM} {x1 x2 x3 : Int} (hL : Lay m) (h : allI m) (hs : m 11 5 + 10000 ≤ 20000000) : ML iX10_call [(2, 0), (0, x1), (0, x2), (0, x3)] m (fun r m1 => ML iX11_call [(2, 139), (0, x1), (0, x2), (0, x3)] m1 (fun r' m2 => r = r' ∧ nx m m2)) := by
  refine ML_mono (p_call h.1.2.2.1) (fun r m1 g => ML_mono g (fun r' m2 q => ⟨q.1, ?_⟩))
  · have f := q.2.2
    exact nx_a h (tpInv_cg (agr_of f (by decide)) h.1.1) q.2.1 (teInv_cg (agr_of f (by decide)) h.1.2.2.2.1) (crInv_cg (agr_of f (by decide)) h.1.2.2.2.2) (agr_of f (by decide))
theorem L_told {m : jM} {x1 x2 : Int} (hL : Lay m) (h : allI m) (hs : m 11 5 + 10000 ≤ 20000000) : ML iX10_told [(2, 0), (0, x1), (0, x2)] m (fun r m1 => ML iX11_told [(2, 139), (0, x1), (0, x2)] m1 (fun r' m2 => r = r' ∧ nx m m2)) := by
  refine ML_mono (p_told h.1.2.2.1) (fun r m1 g => ML_mono g (fun r' m2 q => ⟨q.1, ?_⟩))
  · have f := q.2
    exact nx_a h (tpInv_cg (agr_of f (by decide)) h.1.1) (snInv_cg (agr_of f (by decide)) h.1.2.2.1) (teInv_cg (agr_of f (by decide)) h.1.2.2.2.1) (crInv_cg (agr_of f (by decide)) h.1.2.2.2.2) (agr_of f (by decide))
theorem L_soonest {m : jM} (hL : Lay m) (h : allI m) (hs : m 11 5 + 10000 ≤ 20000000) : ML iX10_soonest [(2, 0)] m (fun r m1 => ML iX11_soonest [(2, 139)] m1 (fun r' m2 => r = r' ∧ nx m m2)) := by
  refine ML_mono (p_soonest h.1.2.2.1) (fun r m1 g => ML_mono g (fun r' m2 q => ⟨q.1, ?_⟩))
  · have f := q.2
    exact nx_a h (tpInv_cg (agr_of f (by decide)) h.1.1) (snInv_cg (agr_of f (by decide)) h.1.2.2.1) (teInv_cg (agr_of f (by decide)) h.1.2.2.2.1) (crInv_cg (agr_of f (by decide)) h.1.2.2.2.2) (agr_of f (by decide))
theorem L_lent {m : jM} {x1 : Int} (hL : Lay m) (h : allI m) (hs : m 11 5 + 10000 ≤ 20000000) : ML iX10_lent [(2, 0), (0, x1)] m (fun r m1 => ML iX11_lent [(2, 139), (0, x1)] m1 (fun r' m2 => r = r' ∧ nx m m2)) := by
  refine ML_mono (p_lent (qI_of h (by omega)) hs h.2.1.2.2.1 h.2.1.2.2.2) (fun r m1 g => ML_mono g (fun r' m2 q => ⟨q.1, ?_⟩))
  · exact nx_F h q.2 (by decide)
theorem L_lentAt {m : jM} {x1 x2 x3 : Int} (hL : Lay m) (h : allI m) (hs : m 11 5 + 10000 ≤ 20000000) : ML iX10_lentAt [(2, 0), (0, x1), (0, x2), (0, x3)] m (fun r m1 => ML iX11_lentAt [(2, 139), (0, x1), (0, x2), (0, x3)] m1 (fun r' m2 => r = r' ∧ nx m m2)) := by
  refine ML_mono (p_lentAt (qI_of h (by omega)) hs h.2.1.2.2.1 h.2.1.2.2.2) (fun r m1 g => ML_mono g (fun r' m2 q => ⟨q.1, ?_⟩))
  · exact nx_F h q.2 (by decide)
theorem L_count {m : jM} {x1 : Int} (hL : Lay m) (h : allI m) (hs : m 11 5 + 10000 ≤ 20000000) (hc : -2147483648 ≤ x1 ∧ x1 ≤ 2147483647) : ML iX10_count [(2, 0), (0, x1)] m (fun r m1 => ML iX11_count [(2, 139), (0, x1)] m1 (fun r' m2 => r = r' ∧ nx m m2)) := by
  refine ML_mono (p_count hc h.1.1 h.1.2.1 h.1.2.2.1 h.1.2.2.2.1.2.1.1 h.1.2.2.2.2.2.1.1 h.2.1.1) (fun r m1 g => ML_mono g (fun r' m2 q => ⟨q.1, ?_⟩))
  · exact nx_rf h q.2
