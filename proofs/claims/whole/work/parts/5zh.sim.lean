/-! THE START, AND ALL TOGETHER: Rel 0 .. of fresh objects (the states written out, as 61.start names them) -/
def K0 : Kt := (0, 0, fun _ => 0, fun _ => 0, fun _ => 0, fun _ => 0, fun _ => 0, fun _ => 0)
theorem K0_ok : KOk K0 := ⟨Nat.zero_le _, Nat.zero_le _, fun _ h => absurd h (Nat.not_lt_zero _), fun _ h => absurd h (Nat.not_lt_zero _)⟩
theorem rel_start {σ τ : SS} (a : ∀ x i, 1 ≤ x → x ≤ 18 → σ x i = 0) (b : ∀ i, i ≠ 7 → σ 0 i = 0) (c : σ 0 7 = 10) (d : ∀ i, i ≠ 11 → τ 0 i = 0) (e : τ 0 11 = 10) : Rel 0 σ τ := by
  refine ⟨K0, emp, 0, false, emp, K0_ok, ⟨emp_ok, emp_tw, fun v u x y _ h => (by cases h), fun m h => absurd h (Nat.not_lt_zero _), fun w h => absurd h (Nat.not_lt_zero _)⟩, ⟨a 1 0 (by omega) (by omega), a 1 1 (by omega) (by omega), fun m h => absurd h (Nat.not_lt_zero _), fun w h => absurd h (Nat.not_lt_zero _), fun w _ _ => ⟨a 11 w (by omega) (by omega), a 12 w (by omega) (by omega)⟩⟩, ⟨fun w hw => ?_, fun m hm => ⟨?_, ?_, ?_, ?_⟩, ?_⟩, ⟨d 0 (by omega), d 3 (by omega), fun m h => absurd h (Nat.not_lt_zero _), fun w h => absurd h (Nat.not_lt_zero _)⟩, fun w h => absurd h (Nat.not_lt_zero _), fun w m h => absurd h (Nat.not_lt_zero _), ⟨b 8 (by omega), d 10 (by omega), Int.le_refl _, by decide, fun w h => (by cases h)⟩, ⟨⟨by rw [c, e], 10, by rw [c]; rfl, by decide, by decide⟩, by rw [b 10 (by omega), d 12 (by omega)], by rw [b 9 (by omega), d 13 (by omega)], b 6 (by omega), d 21 (by omega)⟩, fun z => (by cases z)⟩
  · have hw2 : w < 0 ∨ (13 = 21 ∧ w < 8) := hw
    omega
  · rw [uA_emp]; exact a 15 m (by omega) (by omega)
  · rw [uB_emp]; exact a 16 m (by omega) (by omega)
  · rw [cn_emp]; exact a 17 m (by omega) (by omega)
  · rw [tw_ext (q := fun _ => false) (fun g _ => ht_emp)]; exact a 18 m (by omega) (by omega)
  · rw [oc_emp]; exact a 13 6 (by omega) (by omega)
theorem sim_ok : Sim 1000000 Rel := ⟨S_machine_ok _, S_work_ok (by decide), S_move_ok (by decide), S_price_ok _, S_about_ok (by decide), S_free_ok (by decide), S_fewest_ok (by decide), S_plan_ok (by decide), S_planAt_ok _, S_tries_ok _, S_cost_ok (by decide), S_order_ok (by decide), S_orderAt_ok (by decide), S_third_ok (by decide), S_byStop_ok (by decide), S_step_ok (by decide), S_tick_ok (by decide), S_wait_ok (by decide), S_count_ok (by decide), S_digest_ok (by decide)⟩
