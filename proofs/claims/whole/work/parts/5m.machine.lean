def addM (K : Kt) (a b : Int) : Kt := (kM K + 1, kW K, fun m => if m = kM K then a else kRA K m, fun m => if m = kM K then b else kRB K m, kA K, kB K, kd K, kg K)
theorem S_machine_ok (N : Nat) : S_machine N Rel := by
  rintro k a0 a1 σ τ hk ⟨K, h, t, pl, π, q⟩
  obtain ⟨q1, q2, q3, q4, q5, q6, q7, ⟨t1, t2, t3, t4, t5⟩, ⟨p1, p2, p3, p4, p5⟩, q10⟩ := id q
  obtain ⟨x, rfl, hx1, hx2⟩ := J_ex a0
  obtain ⟨y, rfl, hy1, hy2⟩ := J_ex a1
  have hM := q1.1
  have i1 := fun z : Int => J0
  rw [fX5_machine, fX6_machine, isAmount_spec N ⟨hx1, hx2⟩, show (0 : Int32) = J 0 from rfl, show (1000 : Int32) = J 1000 from rfl, in_spec N ⟨hx1, hx2⟩ (by omega) (by omega), cali_s, cali_s]
  rcases bz_split (lo := 0) (x := x) (hi := 1000) with e | ⟨e, e1, e2⟩
  · rw [e, if_pos (show bz false = J 0 from rfl)]
    exact ⟨-2, σ, τ, rfl, rfl, K, h, t, pl, π, q.up⟩
  rw [e, if_neg (show ¬ bz true = J 0 by decide), if_neg (show ¬ bz true = J 0 by decide), isAmount_spec N ⟨hy1, hy2⟩, in_spec N ⟨hy1, hy2⟩ (by omega) (by omega), cali_s, cali_s]
  rcases bz_split (lo := 0) (x := y) (hi := 1000) with e | ⟨e, e3, e4⟩
  · rw [e, if_pos (show bz false = J 0 from rfl)]
    exact ⟨-2, σ, τ, rfl, rfl, K, h, t, pl, π, q.up⟩
  rw [e, if_neg (show ¬ bz true = J 0 by decide), if_neg (show ¬ bz true = J 0 by decide), q3.1, q5.1]
  have c5 : J (kM K : Int) = (5 : Int32) ↔ (kM K : Int) = 5 := J_eq (a := (kM K : Int)) (b := 5) (by omega) (by omega) (by omega) (by omega)
  have c5' : J (kM K : Int) < (5 : Int32) ↔ (kM K : Int) < 5 := J_lt (a := (kM K : Int)) (b := 5) (by omega) (by omega) (by omega) (by omega)
  by_cases c : kM K = 5
  · rw [if_neg (fun z => by have := c5'.mp z; omega), if_pos (c5.mpr (by omega))]
    exact ⟨-4, σ, τ, rfl, rfl, K, h, t, pl, π, q.up⟩
  rw [if_pos (c5'.mpr (by omega)), if_neg (fun z => by have := c5.mp z; omega), fX3_addMachine, q3.1]
  simp (disch := omega) only [sg, ck_J, J_nn, cali_s, stp_s, stp_n, upd_s, upd_n, q5.1, q3.1, J1, J_add, J_sub]
  have eu : ∀ ρ, RoOk K ρ → uA (addM K x y) ρ (kM K) = 0 ∧ uB (addM K x y) ρ (kM K) = 0 := fun ρ hρ => by
    have : ∀ w, ρ w ≠ some (kM K) := fun w z => by have := (hρ w _ z).2; omega
    exact ⟨sm_zero (fun w _ => if_neg (this w)), sm_zero (fun w _ => if_neg (this w))⟩
  have hro : ∀ ρ, RoOk K ρ → RoOk (addM K x y) ρ := fun ρ hρ w m e => by
    have := hρ w m e
    exact ⟨this.1, show m < kM K + 1 by omega⟩
  have hfit : ∀ ρ, RoOk K ρ → (∀ m, m < kM K → uA K ρ m ≤ kRA K m ∧ uB K ρ m ≤ kRB K m) → ∀ m, m < kM (addM K x y) → uA (addM K x y) ρ m ≤ kRA (addM K x y) m ∧ uB (addM K x y) ρ m ≤ kRB (addM K x y) m := fun ρ hρ hf m hm => by
    have hm2 : m < kM K + 1 := hm
    show uA (addM K x y) ρ m ≤ (if m = kM K then x else kRA K m) ∧ uB (addM K x y) ρ m ≤ (if m = kM K then y else kRB K m)
    by_cases c : m = kM K
    · subst c
      rw [(eu ρ hρ).1, (eu ρ hρ).2, if_pos rfl, if_pos rfl]
      omega
    · rw [if_neg c, if_neg c]
      exact hf m (by omega)
  have hKn : KOk (addM K x y) := by
    refine ⟨show kM K + 1 ≤ 5 by omega, q1.2.1, fun m hm => ?_, q1.2.2.2⟩
    have hm2 : m < kM K + 1 := hm
    show 0 ≤ (if m = kM K then x else kRA K m) ∧ (if m = kM K then x else kRA K m) ≤ 1000 ∧ 0 ≤ (if m = kM K then y else kRB K m) ∧ (if m = kM K then y else kRB K m) ≤ 1000
    by_cases c : m = kM K
    · rw [if_pos c, if_pos c]; omega
    · rw [if_neg c, if_neg c]; exact q1.2.2.1 m (by omega)
  rw [show (kM K : Int) + 1 - 1 = kM K by omega]
  refine ⟨J (kM K : Int), _, _, rfl, rfl, addM K x y, h, t, pl, π, hKn, ⟨hro h q2.1, q2.2.1, q2.2.2.1, hfit h q2.1 q2.2.2.2.1, q2.2.2.2.2⟩, ⟨?_, ?_, ?_, ?_, ?_⟩, ?_, ⟨?_, ?_, ?_, ?_⟩, ?_, ?_, ⟨?_, ?_, t3, by omega, t5⟩, ⟨?_, ?_, ?_, ?_, ?_⟩, ?_⟩
  all_goals try simp (disch := omega) only [stp_s, stp_n, upd_s, upd_n]
  · rfl
  · exact q3.2.1
  · intro m hm
    have hm2 : m < kM K + 1 := hm
    show upd (σ 2) (kM K) (J x) m = J (if m = kM K then x else kRA K m) ∧ upd (σ 3) (kM K) (J y) m = J (if m = kM K then y else kRB K m)
    by_cases c : m = kM K
    · subst c; rw [upd_s, upd_s, if_pos rfl, if_pos rfl]; exact ⟨rfl, rfl⟩
    · rw [upd_n c, upd_n c, if_neg c, if_neg c]; exact q3.2.2.1 m (by omega)
  · exact q3.2.2.2.1
  · exact q3.2.2.2.2
  · exact q4.keep (fun x a b => by simp (disch := omega) only [stp_n])
  · rfl
  · exact q5.2.1
  · intro m hm
    have hm2 : m < kM K + 1 := hm
    show upd (τ 1) (kM K) (J x) m = J (if m = kM K then x else kRA K m) ∧ upd (τ 2) (kM K) (J y) m = J (if m = kM K then y else kRB K m)
    by_cases c : m = kM K
    · subst c; rw [upd_s, upd_s, if_pos rfl, if_pos rfl]; exact ⟨rfl, rfl⟩
    · rw [upd_n c, upd_n c, if_neg c, if_neg c]; exact q5.2.2.1 m (by omega)
  · exact q5.2.2.2
  · exact fun w hw => by simp (disch := omega) only [stp_n]; exact q6 w hw
  · exact fun w m hw hm => by simp (disch := omega) only [stp_n]; exact q7 w m hw hm
  · exact t1
  · exact t2
  · exact p1
  · exact p2
  · exact p3
  · exact p4
  · exact p5
  · intro z
    obtain ⟨z1, z2, z3⟩ := q10 z
    refine ⟨⟨hro π z1.1, z1.2.1, z1.2.2.1, hfit π z1.1 z1.2.2.2.1, z1.2.2.2.2⟩, fun w hw => ?_, fun w hw => ?_⟩
    · simp (disch := omega) only [stp_n]; exact z2 w hw
    · simp (disch := omega) only [stp_n]; exact z3 w hw
