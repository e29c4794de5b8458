theorem comes_spec {τ : SS} {K : Kt} {h ρ : Ro} {b m : Nat} {N : Nat} (hN : 20 ≤ N) (hK : KOk K) (hH : HOk K h) (hR : MdRep τ K) (hO : MdOv τ K (ovf h)) (h13 : ∀ w, w < kW K → τ 13 w = rv (ρ w)) (hρ : RoOk K ρ) (hlive : ∀ w, h w = none → ρ w = none) (hb : b < kW K) (hhb : h b ≠ none) (hm : m < kM K) (hown : ∀ w, w < kW K → blk K w = b → ρ w ≠ some m) : fX6_comes N (J (b : Int)) (J (m : Int)) τ = some (bz (tkB K ρ b m), τ) := by
  have hW := hK.2.1
  have hM := hK.1
  have hob : ovf h b = false := by
    unfold ovf
    cases z : h b with
    | none => exact absurd z hhb
    | some x => rfl
  have eown : ∀ w, w < kW K → (!(ovf h w) && decide ((blk K w : Int) = (b : Int))) = decide (blk K w = b) := by
    intro w hw
    by_cases c : blk K w = b
    · have : ovf h w = false := by
        cases z : ovf h w with
        | false => rfl
        | true =>
          have hk4 := hH.ov w hw z
          have := blk_own (K := K) (w := w) (by omega)
          rw [← c, this] at hob
          rw [z] at hob
          cases hob
      rw [this, decide_eq_true c, decide_eq_true (by omega : (blk K w : Int) = (b : Int))]; rfl
    · rw [decide_eq_false c, decide_eq_false (by omega : ¬ (blk K w : Int) = (b : Int)), Bool.and_false]
  have fA : ∀ w, w < kW K → 0 ≤ (if blk K w = b ∨ ρ w = some m then kA K w else 0) ∧ (if blk K w = b ∨ ρ w = some m then kA K w else 0) ≤ 1000 := fun w hw => by
    have := hK.2.2.2 w hw
    by_cases c : blk K w = b ∨ ρ w = some m
    · rw [if_pos c]; omega
    · rw [if_neg c]; omega
  have fB : ∀ w, w < kW K → 0 ≤ (if blk K w = b ∨ ρ w = some m then kB K w else 0) ∧ (if blk K w = b ∨ ρ w = some m then kB K w else 0) ≤ 1000 := fun w hw => by
    have := hK.2.2.2 w hw
    by_cases c : blk K w = b ∨ ρ w = some m
    · rw [if_pos c]; omega
    · rw [if_neg c]; omega
  have key : ∀ (d j n : Nat), j + d = kW K → d < n → lp (fX6_comes_11 N) (fun _ _ _ _ _ _ _ => none) n (J (b : Int)) (J (m : Int)) (J (sm j (fun w => if blk K w = b ∨ ρ w = some m then kA K w else 0))) (J (sm j (fun w => if blk K w = b ∨ ρ w = some m then kB K w else 0))) (bz (!(anyk j (fun v => decide (ρ v = some m) && !(decide (blk K v = b)) && lik K v b 1)))) (J (j : Int)) τ = some (bz (!(anyk (kW K) (fun v => decide (ρ v = some m) && !(decide (blk K v = b)) && lik K v b 1)) && (decide (sm (kW K) (fun w => if blk K w = b ∨ ρ w = some m then kA K w else 0) ≤ kRA K m) && decide (sm (kW K) (fun w => if blk K w = b ∨ ρ w = some m then kB K w else 0) ≤ kRB K m))), τ) := by
    intro d
    induction d with
    | zero =>
      intro j n hj hn
      obtain ⟨n, rfl⟩ : ∃ n', n = n' + 1 := ⟨n - 1, by omega⟩
      have ej : j = kW K := by omega
      subst ej
      have sA := sm_bd (n := kW K) (c := 1000) fA
      have sB := sm_bd (n := kW K) (c := 1000) fB
      have hrm := hK.2.2.1 m hm
      generalize sm (kW K) (fun w => if blk K w = b ∨ ρ w = some m then kA K w else 0) = a at sA ⊢
      generalize sm (kW K) (fun w => if blk K w = b ∨ ρ w = some m then kB K w else 0) = a2 at sB ⊢
      generalize anyk (kW K) (fun v => decide (ρ v = some m) && !(decide (blk K v = b)) && lik K v b 1) = ap
      have c1 := J_lt (a := kRA K m) (b := a) (by omega) (by omega) (by omega) (by omega)
      have c2 := J_lt (a := kRB K m) (b := a2) (by omega) (by omega) (by omega) (by omega)
      rw [lp_succ, fX6_comes_11, hR.2.1, if_pos ((J_le (by omega) (by omega) (by omega) (by omega)).mpr (by omega))]
      simp (disch := omega) only [ck_J, J_nn, (hR.2.2.1 m hm).1, (hR.2.2.1 m hm).2, fX6_comes_176, fX6_comes_177, zk0, zk1]
      cases ap with
      | true => rw [if_pos (by rfl)]; rfl
      | false =>
        rw [if_neg (by decide)]
        by_cases d1 : kRA K m < a
        · rw [if_pos (c1.mpr d1), decide_eq_false (by omega : ¬ a ≤ kRA K m)]; rfl
        · rw [if_neg (fun q => d1 (c1.mp q)), decide_eq_true (by omega : a ≤ kRA K m)]
          by_cases d2 : kRB K m < a2
          · rw [if_pos (c2.mpr d2), decide_eq_false (by omega : ¬ a2 ≤ kRB K m)]; rfl
          · rw [if_neg (fun q => d2 (c2.mp q)), decide_eq_true (by omega : a2 ≤ kRB K m)]; rfl
    | succ d ih =>
      intro j n hj hn
      obtain ⟨n, rfl⟩ : ∃ n', n = n' + 1 := ⟨n - 1, by omega⟩
      have hjW : j < kW K := by omega
      have hx := ih (j + 1) n (by omega) (by omega)
      have esA : sm (j + 1) (fun w => if blk K w = b ∨ ρ w = some m then kA K w else 0) = sm j (fun w => if blk K w = b ∨ ρ w = some m then kA K w else 0) + (if blk K j = b ∨ ρ j = some m then kA K j else 0) := rfl
      have esB : sm (j + 1) (fun w => if blk K w = b ∨ ρ w = some m then kB K w else 0) = sm j (fun w => if blk K w = b ∨ ρ w = some m then kB K w else 0) + (if blk K j = b ∨ ρ j = some m then kB K j else 0) := rfl
      have eap : anyk (j + 1) (fun v => decide (ρ v = some m) && !(decide (blk K v = b)) && lik K v b 1) = (anyk j (fun v => decide (ρ v = some m) && !(decide (blk K v = b)) && lik K v b 1) || (decide (ρ j = some m) && !(decide (blk K j = b)) && lik K j b 1)) := rfl
      rw [esA, esB, eap] at hx
      generalize sm j (fun w => if blk K w = b ∨ ρ w = some m then kA K w else 0) = a at hx ⊢
      generalize sm j (fun w => if blk K w = b ∨ ρ w = some m then kB K w else 0) = a2 at hx ⊢
      generalize anyk j (fun v => decide (ρ v = some m) && !(decide (blk K v = b)) && lik K v b 1) = ap at hx ⊢
      obtain ⟨m3, m4, -⟩ := hR.2.2.2 j hjW
      rw [lp_succ, fX6_comes_11, hR.2.1, if_neg (fun q => by have := (J_le (by omega) (by omega) (by omega) (by omega)).mp q; omega), isOf_spec (by omega) hK hR hO hH.ov hjW (by omega), cali_s, eown j hjW]
      simp (disch := omega) only [ck_J, J_nn, hO j hjW, h13 j hjW]
      have there : (if bz (ovf h j) = 0 then (if rv (ρ j) = J (m : Int) then fX6_comes_55 N (lp (fX6_comes_11 N) (fun _ _ _ _ _ _ _ => none) n) (J (b : Int)) (J (m : Int)) (J a) (J a2) (bz (!ap)) (J (j : Int)) (bz (decide (blk K j = b))) 1 τ else fX6_comes_54 N (lp (fX6_comes_11 N) (fun _ _ _ _ _ _ _ => none) n) (J (b : Int)) (J (m : Int)) (J a) (J a2) (bz (!ap)) (J (j : Int)) (bz (decide (blk K j = b))) τ) else fX6_comes_54 N (lp (fX6_comes_11 N) (fun _ _ _ _ _ _ _ => none) n) (J (b : Int)) (J (m : Int)) (J a) (J a2) (bz (!ap)) (J (j : Int)) (bz (decide (blk K j = b))) τ) = fX6_comes_55 N (lp (fX6_comes_11 N) (fun _ _ _ _ _ _ _ => none) n) (J (b : Int)) (J (m : Int)) (J a) (J a2) (bz (!ap)) (J (j : Int)) (bz (decide (blk K j = b))) (bz (decide (ρ j = some m))) τ := by
        cases hz : h j with
        | none =>
          have e1 : ovf h j = true := by unfold ovf; rw [hz]; rfl
          have e2 := hlive j hz
          rw [e1, if_neg (by decide), e2, fX6_comes_54, decide_eq_false (show ¬ (none : Option Nat) = some m from nofun)]
          rfl
        | some y =>
          have e1 : ovf h j = false := by unfold ovf; rw [hz]; rfl
          have ci : rv (ρ j) = J (m : Int) ↔ ρ j = some m := rv_inj (o1 := some m) (fun x q => by have := (hρ j x q).2; omega) (fun x q => by cases q; omega)
          rw [e1, if_pos (by rfl)]
          by_cases c : ρ j = some m
          · rw [if_pos (ci.mpr c), decide_eq_true c]; rfl
          · rw [if_neg (fun q => c (ci.mp q)), decide_eq_false c, fX6_comes_54]; rfl
      rw [there]
      have els : fX6_isLike N (J (j : Int)) (J (b : Int)) 1 τ = some (bz (lik K j b 1), τ) := isLike_spec (k := 1) N hK hR hjW hb (by omega)
      by_cases co : blk K j = b
      · have hnt := hown j hjW co
        rw [decide_eq_true co, decide_eq_false hnt] at *
        rw [if_pos (Or.inl co), if_pos (Or.inl co)] at hx
        simp only [Bool.false_and, Bool.or_false] at hx
        rw [fX6_comes_55, if_neg (by decide), fX6_comes_68, ck_J (by omega) (by omega) (by omega), J_nn (by omega), m3, fX6_comes_79, if_neg (by decide), J_add, fX6_comes_93, ck_J (by omega) (by omega) (by omega), J_nn (by omega), m4]
        rw [fX6_comes_104]
        cases ap with
        | true => rw [if_pos (by rfl), fX6_comes_137, fX6_comes_138, J_add, J1, J_add]; exact hx
        | false => rw [if_neg (by decide), if_neg (by decide), fX6_comes_133, fX6_comes_138, J_add, J1, J_add]; exact hx
      · by_cases ct : ρ j = some m
        · rw [decide_eq_false co, decide_eq_true ct] at *
          rw [if_pos (Or.inr ct), if_pos (Or.inr ct)] at hx
          rw [fX6_comes_55, if_pos (by rfl), if_neg (by decide), fX6_comes_68, ck_J (by omega) (by omega) (by omega), J_nn (by omega), m3, fX6_comes_79, if_pos (by rfl), if_neg (by decide), J_add, fX6_comes_93, ck_J (by omega) (by omega) (by omega), J_nn (by omega), m4]
          rw [fX6_comes_104, els, cali_s]
          cases ap with
          | true => rw [if_pos (by rfl), fX6_comes_137, fX6_comes_138, J_add, J1, J_add]; exact hx
          | false =>
            rw [if_neg (by decide), if_pos (by rfl), if_neg (by decide)]
            cases el : lik K j b 1 with
            | true =>
              rw [el] at hx
              rw [if_neg (by decide), fX6_comes_137, fX6_comes_138, J_add, J1, J_add]; exact hx
            | false =>
              rw [el] at hx
              rw [if_pos (by rfl), fX6_comes_133, fX6_comes_138, J_add, J1, J_add]; exact hx
        · have cn : ¬ (blk K j = b ∨ ρ j = some m) := fun q => q.elim co ct
          rw [decide_eq_false co, decide_eq_false ct] at *
          rw [if_neg cn, if_neg cn] at hx
          simp only [Bool.false_and, Bool.or_false, Int.add_zero] at hx
          rw [fX6_comes_55, if_pos (by rfl), if_pos (by rfl), fX6_comes_79, if_pos (by rfl), if_pos (by rfl), fX6_comes_104]
          cases ap with
          | true => rw [if_pos (by rfl), fX6_comes_137, fX6_comes_138, J0, J_add, J_add, J1, J_add, Int.add_zero, Int.add_zero]; exact hx
          | false => rw [if_neg (by decide), if_pos (by rfl), if_pos (by rfl), fX6_comes_133, fX6_comes_138, J0, J_add, J_add, J1, J_add, Int.add_zero, Int.add_zero]; exact hx
  have h1 := key (kW K) 0 N (by omega) (by omega)
  have split : ∀ (f : Nat → Int), sm (kW K) (fun w => if blk K w = b ∨ ρ w = some m then f w else 0) = sm (kW K) (fun w => if blk K w = b then f w else 0) + sm 8 (fun w => if ρ w = some m then f w else 0) := by
    intro f
    rw [sm_ext (n := kW K) (m := 8) (f := fun w => if ρ w = some m then f w else 0) (by omega) (fun i h1 h2 => if_neg (fun q => by have := (hρ i m q).1; omega)), ← sm_add]
    refine sm_congr (fun i hi => ?_)
    by_cases co : blk K i = b
    · rw [if_pos (Or.inl co), if_pos co, if_neg (hown i hi co)]; omega
    · by_cases ct : ρ i = some m
      · rw [if_pos (Or.inr ct), if_neg co, if_pos ct]; omega
      · rw [if_neg (fun q => q.elim co ct), if_neg co, if_neg ct]; rfl
  have eA : sm (kW K) (fun w => if blk K w = b ∨ ρ w = some m then kA K w else 0) = bA K b + uA K ρ m := split (kA K)
  have eB : sm (kW K) (fun w => if blk K w = b ∨ ρ w = some m then kB K w else 0) = bB K b + uB K ρ m := split (kB K)
  have eT : (!(anyk (kW K) (fun v => decide (ρ v = some m) && !(decide (blk K v = b)) && lik K v b 1))) = (!(kd K b == 1) || !(ht K ρ m (kg K b).toNat)) := by
    by_cases ek : kd K b = 1
    · rw [ek]
      simp only [beq_self_eq_true, Bool.not_true, Bool.false_or]
      congr 1
      have hg := (hK.2.2.2 b hb).2.2.2.2.2.2.2 (Or.inl ek)
      cases e : ht K ρ m (kg K b).toNat with
      | false =>
        have hf := (ht_and hK hb ek).mp e
        refine anyk_false.mpr (fun v hv => ?_)
        by_cases ct : ρ v = some m
        · by_cases k1 : kd K v = 1
          · have := hf v (by omega) ct k1
            have : lik K v b 1 = false := by unfold lik; simp [k1, ek, this]
            rw [this, Bool.and_false]
          · have : lik K v b 1 = false := by unfold lik; simp [k1]
            rw [this, Bool.and_false]
        · rw [decide_eq_false ct]; rfl
      | true =>
        cases e2 : anyk (kW K) (fun v => decide (ρ v = some m) && !(decide (blk K v = b)) && lik K v b 1) with
        | true => rfl
        | false =>
          have hall := anyk_false.mp e2
          have : ht K ρ m (kg K b).toNat = false := (ht_and hK hb ek).mpr (fun v hv ct k1 q => by
            have hvW := (hρ v m ct).1
            have := hall v hvW
            have hbv : ¬ blk K v = b := fun z => hown v hvW z ct
            rw [decide_eq_true ct, decide_eq_false hbv] at this
            unfold lik at this
            simp [k1, ek, q] at this)
          rw [this] at e
          cases e
    · have e1 : (kd K b == 1) = false := by simp [ek]
      rw [e1, anyk_false.mpr (fun v hv => by
        have : lik K v b 1 = false := by unfold lik; simp [ek]
        rw [this, Bool.and_false])]
      rfl
  rw [eA, eB, eT] at h1
  have e0 : anyk 0 (fun v => decide (ρ v = some m) && !(decide (blk K v = b)) && lik K v b 1) = false := rfl
  rw [e0] at h1
  have efin : tkB K ρ b m = ((!(kd K b == 1) || !(ht K ρ m (kg K b).toNat)) && (decide (bA K b + uA K ρ m ≤ kRA K m) && decide (bB K b + uB K ρ m ≤ kRB K m))) := by
    unfold tkB
    rw [Bool.and_comm]
    congr 1
    congr 1
    · exact decide_eq_decide.mpr (by omega)
    · exact decide_eq_decide.mpr (by omega)
  rw [efin]
  exact h1
