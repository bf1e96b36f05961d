set_option maxHeartbeats 4000000 in
theorem q_all (L : Nat) (xs : Nat → Int32) (hL : L ≤ 2560) : q_L_law L xs := by
  unfold q_L_law q_X8_init
  refine s_beginAnew (fun L' ac' th' rl' dc' q1 q2 q3 q4 q5 => ?_)
  refine ⟨512 + 1, law_loop L xs hL 512 0 _ _ _ _ _ _ _ _ _ _ _ _ _ _ _ _ _ _ _ _ _ _ _ _ _ _ _ _ _ _ _ _ _ _ _ _ _ _ _ _ _ _ _ _ _ _ _ _ _ _ _ _ _ _ _ _ _ _ _ _ _ _ _ _ _ _ _ _ _ _ _ _ _ _ _ _ (by omega) (by omega) ?_⟩
  exact inv_begin (c := 2) (W := 0) (Or.inl rfl) (by omega) (fun j _ => ⟨0, Nat.le_refl 0, rfl⟩) q1 q2 q3 q4 q5 (fun _ _ => rfl) (by decide +kernel) (by decide +kernel) (by decide +kernel) (fun _ _ => rfl)
