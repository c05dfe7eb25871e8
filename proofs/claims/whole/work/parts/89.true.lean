/-! the law holds of every script -/
theorem inv_0 : Inv LM mz_s0 := by
  refine ⟨⟨0, by omega, rfl, rfl, fun k hk => ⟨0, 0, by omega, rfl, rfl, ⟨rfl, rfl, by omega, ⟨0, by omega, rfl⟩, ⟨0, by omega, rfl⟩, ⟨0, by omega, rfl⟩, fun _ => rfl, fun h => absurd h (by omega), fun h => absurd h (by omega)⟩, fun _ => ⟨rfl, rfl⟩, fun i hi => absurd hi (by omega)⟩⟩, fun _ _ => rfl, ⟨rfl, rfl, rfl, Or.inl rfl, fun _ _ _ => rfl, fun h => absurd h (by decide), 0, by omega, rfl, fun j _ hj => absurd hj (by omega)⟩, Or.inl rfl, Or.inl rfl, rfl⟩
theorem mw_true (xs : Nat → Int32) (L : Nat) (hL : L ≤ 3072) : mw_Law_law xs L mz_s0 :=
  law_true LM (fun _ _ hL hm => LM_run hm (by decide) (by decide) hL) (fun σ u hL hm _ h0 h1 => ⟨Or.inl h0, Or.inl h1, by rw [hm 1012 (by decide)]; exact hL.2.2⟩) (lk_run mk_ok) lk_order lk_nearest lk_frontier lk_live lk_phi lk_depth xs L hL inv_0
