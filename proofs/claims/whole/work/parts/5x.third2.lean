def U3 (K : Kt) (h π : Ro) (b m : Nat) (o : Nat) : Bool := canX (mN K h π + 1) (ok3 K h π b m) o
def A3 (K : Kt) (h π : Ro) (b m kb : Nat) (e : Nat) : Bool := U3 K h π b m (if Nat.testBit e kb = true then e ||| 2 ^ (mN K h π) else e)
def D3 (K : Kt) (h π : Ro) (b m kb : Nat) (e : Nat) : Bool := if Nat.testBit e kb = true then false else U3 K h π b m (e ||| 2 ^ (mN K h π))
theorem bit_top {n e : Nat} (h : e < 2 ^ n) : Nat.testBit e n = false := Nat.testBit_lt_two_pow h
theorem tb_top {n e : Nat} : Nat.testBit (e ||| 2 ^ n) n = true := by rw [tb_set]; simp
theorem or_swap {e a b : Nat} : (e ||| a) ||| b = (e ||| b) ||| a := by
  rw [Nat.or_assoc, Nat.or_comm a, ← Nat.or_assoc]
section FACTS
variable {K : Kt} {h π : Ro} {b m kb e : Nat}
theorem ok3_hi {k : Nat} (hk : k < mN K h π) : ok3 K h π b m (e ||| 2 ^ (mN K h π)) k = (!(Nat.testBit e k) && tkB K (ps3 K h π b m (e ||| 2 ^ (mN K h π))) (mB K h π k) (tgt π (mB K h π k))) := by
  have cn : ¬ k = mN K h π := by omega
  have eB : jB3 K h π b k = mB K h π k := if_neg cn
  have eT : jT3 K h π m k = tgt π (mB K h π k) := if_neg cn
  have eQ : jQ3 K h π b k = if mB K h π k = b then some (mN K h π) else none := if_neg cn
  unfold ok3 okJ opn
  rw [eB, eT, eQ, tb_set, decide_eq_false (by omega : ¬ mN K h π = k), Bool.or_false]
  by_cases c : mB K h π k = b
  · rw [if_pos c]
    dsimp only
    rw [tb_set, decide_eq_true (rfl : mN K h π = mN K h π), Bool.or_true, Bool.and_true]
  · rw [if_neg c]
    dsimp only
    rw [Bool.and_true]
theorem ok3_top : ok3 K h π b m (e ||| 2 ^ (mN K h π)) (mN K h π) = false := by
  unfold ok3 okJ opn
  rw [tb_set, decide_eq_true rfl, Bool.or_true]
  rfl
theorem ok3_lo {k : Nat} (he : e < 2 ^ (mN K h π)) (hk : k < mN K h π) : ok3 K h π b m e k = (!(Nat.testBit e k) && !(decide (mB K h π k = b)) && tkB K (ps3 K h π b m e) (mB K h π k) (tgt π (mB K h π k))) := by
  have cn : ¬ k = mN K h π := by omega
  have eB : jB3 K h π b k = mB K h π k := if_neg cn
  have eT : jT3 K h π m k = tgt π (mB K h π k) := if_neg cn
  have eQ : jQ3 K h π b k = if mB K h π k = b then some (mN K h π) else none := if_neg cn
  unfold ok3 okJ opn
  rw [eB, eT, eQ]
  by_cases c : mB K h π k = b
  · rw [if_pos c, decide_eq_true c]
    dsimp only
    rw [bit_top he]
    simp
  · rw [if_neg c, decide_eq_false c]
    dsimp only
    simp
theorem ok3_det (he : e < 2 ^ (mN K h π)) : ok3 K h π b m e (mN K h π) = tkB K (ps3 K h π b m e) b m := by
  have eB : jB3 K h π b (mN K h π) = b := if_pos rfl
  have eT : jT3 K h π m (mN K h π) = m := if_pos rfl
  have eQ : jQ3 K h π b (mN K h π) = none := if_pos rfl
  unfold ok3 okJ opn
  rw [eB, eT, eQ, bit_top he]
  rfl
theorem ps3_lo (hP : PlanOk K h π) (he : e < 2 ^ (mN K h π)) : ps3 K h π b m e = posM K h π none e := by
  rw [posM_none hP]
  unfold ps3
  rw [bit_top he, if_neg (by decide)]
theorem ps3_done (hP : PlanOk K h π) (hkb : kb < mN K h π) (eb : mB K h π kb = b) (hd : Nat.testBit e kb = true) : ps3 K h π b m (e ||| 2 ^ (mN K h π)) = posM K h π none e := by
  rw [posM_none hP]
  funext w
  unfold ps3 mvR
  rw [dnb_hi, if_pos (tb_top (n := mN K h π) (e := e))]
  by_cases c : dnb (mN K h π) (mB K h π) e (blk K w) = true
  · rw [if_pos c, if_pos c]
  · rw [if_neg c, if_neg c]
    unfold shR
    rw [if_neg]
    intro q
    exact c (by rw [q.2.2, ← eb, dnb_own hkb]; exact hd)
theorem ps3_third (hH : HOk K h) (hP : PlanOk K h π) (hkb : kb < mN K h π) (eb : mB K h π kb = b) (hd : Nat.testBit e kb = false) : ps3 K h π b m (e ||| 2 ^ (mN K h π)) = plR K h π (dnb (mN K h π) (mB K h π) e) (some b) (some m) := by
  obtain ⟨e1, e2, xb, yb, e3, e4, e5⟩ := mB_ok hkb
  rw [eb] at e1 e2 e3 e4
  have hu := uni_row hH.2.2.1 hH.fr_live e3
  funext w
  unfold ps3 mvR plR
  rw [dnb_hi, if_pos (tb_top (n := mN K h π) (e := e))]
  have hdb : dnb (mN K h π) (mB K h π) e b = false := by rw [← eb, dnb_own hkb]; exact hd
  cases z : h w with
  | none =>
    rw [if_pos rfl]
    have hs := hP.2.2.2.2.1 w
    rw [z] at hs
    have hπ : π w = none := by
      cases y : π w with
      | none => rfl
      | some y1 => rw [y] at hs; simp at hs
    by_cases c : dnb (mN K h π) (mB K h π) e (blk K w) = true
    · rw [if_pos c, hπ]
    · rw [if_neg c]
      unfold shR
      rw [if_neg (fun q => by have := hu w q.1 q.2.2; rw [z] at this; cases this), z]
  | some x =>
    have hwW := (hH.1 w x z).1
    rw [if_neg (show ¬ (some x : Option Nat) = none from nofun)]
    by_cases cb : blk K w = b
    · rw [cb, hdb, if_neg (show ¬ false = true by decide), if_pos rfl]
      unfold shR
      rw [if_pos ⟨hwW, hwW, cb⟩]
    · rw [if_neg (fun q => cb (Option.some.inj q).symm)]
      by_cases c : dnb (mN K h π) (mB K h π) e (blk K w) = true
      · rw [if_pos c, if_pos c]
      · rw [if_neg c, if_neg c]
        unfold shR
        rw [if_neg (fun q => cb q.2.2), z]
theorem rm_top {n : Nat} : rm (n + 1) (e ||| 2 ^ n) = rm n e := by
  show rm n (e ||| 2 ^ n) + (if Nat.testBit (e ||| 2 ^ n) n then 0 else 1) = rm n e
  rw [tb_top, if_pos rfl, Nat.add_zero]
  exact rm_congr (fun k hk => by rw [tb_set, decide_eq_false (by omega : ¬ n = k), Bool.or_false])
theorem rm_low {n : Nat} (he : e < 2 ^ n) : rm (n + 1) e = rm n e + 1 := by
  show rm n e + (if Nat.testBit e n then 0 else 1) = rm n e + 1
  rw [bit_top he]
  rfl
/-- a move with the detour over -/
def hi3 (K : Kt) (h π : Ro) (b m e k : Nat) : Bool := ok3 K h π b m (e ||| 2 ^ (mN K h π)) k && U3 K h π b m ((e ||| 2 ^ (mN K h π)) ||| 2 ^ k)
def lo3 (K : Kt) (h π : Ro) (b m e k : Nat) : Bool := ok3 K h π b m e k && U3 K h π b m (e ||| 2 ^ k)
theorem U3_hi (hr : rm (mN K h π) e ≠ 0) : U3 K h π b m (e ||| 2 ^ (mN K h π)) = anyk (mN K h π) (fun k => hi3 K h π b m e k) := by
  unfold U3
  rw [canX_step (ok := ok3 K h π b m) okJ_b (by rw [rm_top]; exact hr)]
  show (anyk (mN K h π) (fun k => hi3 K h π b m e k) || hi3 K h π b m e (mN K h π)) = _
  have : hi3 K h π b m e (mN K h π) = false := by unfold hi3; rw [ok3_top]; rfl
  rw [this, Bool.or_false]
theorem U3_lo (he : e < 2 ^ (mN K h π)) : U3 K h π b m e = (anyk (mN K h π) (fun k => lo3 K h π b m e k) || (tkB K (ps3 K h π b m e) b m && U3 K h π b m (e ||| 2 ^ (mN K h π)))) := by
  unfold U3
  rw [canX_step (ok := ok3 K h π b m) okJ_b (by rw [rm_low he]; omega)]
  show (anyk (mN K h π) (fun k => lo3 K h π b m e k) || (ok3 K h π b m e (mN K h π) && canX (mN K h π + 1) (ok3 K h π b m) (e ||| 2 ^ (mN K h π)))) = _
  rw [ok3_det he]
end FACTS
def Can3 (K : Kt) (h π : Ro) (b m kb e : Nat) (τ : SS) : Prop := ∀ x, e ≤ x → x < 2 ^ (mN K h π) → τ 14 x = bz (A3 K h π b m kb x) ∧ τ 14 (256 + x) = bz (D3 K h π b m kb x)
section PHASES
variable {τ : SS} {K : Kt} {h π : Ro} {b m kb e N : Nat}
theorem phase_done (hN : 300 ≤ N) (hK : KOk K) (hH : HOk K h) (hP : PlanOk K h π) (hB : MB τ K h π) (hkb : kb < mN K h π) (eb : mB K h π kb = b) (hm : m < kM K) (he : e < 2 ^ (mN K h π)) (hd : Nat.testBit e kb = true) (kc : Int32 → Int32 → Int32 → Int32 → SS → Option (Int32 × SS)) (al : Int32) (Good : Option (Int32 × SS) → Prop) (hpost : ∀ τ3, KeepN τ τ3 → Can3 K h π b m kb e τ3 → Good (kc (J (kb : Int)) (J (m : Int)) al (J ((e : Int) + (-1))) τ3)) : ∀ (d j n : Nat) (τ3 : SS), j + d = mN K h π → d < n → KeepN τ τ3 → Can3 K h π b m kb (e + 1) τ3 → τ3 14 e = bz (decide (rm (mN K h π) e = 0) || anyk j (fun k => hi3 K h π b m e k)) → τ3 14 (256 + e) = 0 → Good (lp (fX6_canByThird_67 N kc) (fun _ _ _ _ _ _ _ => none) n (J (kb : Int)) (J (m : Int)) al (J (e : Int)) 1 (J (j : Int)) τ3) := by
  have hn := mN_le (h := h) (π := π) hK
  have hW := hK.2.1
  have hM := hK.1
  have h2n : 2 ^ (mN K h π) ≤ 256 := Nat.pow_le_pow_right (by omega : 0 < 2) hn
  intro d
  induction d with
  | zero =>
    intro j n τ3 hj hn' hk3 hc3 h14 h15
    obtain ⟨n, rfl⟩ : ∃ n', n = n' + 1 := ⟨n - 1, by omega⟩
    have hB3 := hB.keep hk3
    have ej : j = mN K h π := by omega
    subst ej
    rw [lp_succ, fX6_canByThird_67, hB3.2.2.2.2.1, if_pos ((J_le (by omega) (by omega) (by omega) (by omega)).mpr (by omega))]
    obtain ⟨N', rfl⟩ : ∃ N', N = N' + 1 := ⟨N - 1, by omega⟩
    have go : lp (fX6_canByThird_288 (N' + 1) kc) (fun _ _ _ _ _ _ _ => none) (N' + 1) (J (kb : Int)) (J (m : Int)) al (J (e : Int)) 1 0 τ3 = kc (J (kb : Int)) (J (m : Int)) al (J ((e : Int) + (-1))) τ3 := by
      rw [lp_succ, fX6_canByThird_288]
      have e395 : fX6_canByThird_395 (N' + 1) kc (J (kb : Int)) (J (m : Int)) al (J (e : Int)) 1 τ3 = kc (J (kb : Int)) (J (m : Int)) al (J ((e : Int) + (-1))) τ3 := by
        rw [fX6_canByThird_395, if_neg (by decide), fX6_canByThird_458, Jm1, J_add]
      by_cases c : τ3 0 23 ≤ 0
      · rw [if_pos c, e395]
      · rw [if_neg c, if_neg (by decide), e395]
    rw [go]
    refine hpost τ3 hk3 (fun x h1 h2 => ?_)
    by_cases c : x = e
    · subst c
      have eD : D3 K h π b m kb x = false := by unfold D3; rw [if_pos hd]
      refine ⟨?_, by rw [h15, eD]; rfl⟩
      rw [h14]
      congr 1
      unfold A3
      rw [if_pos hd]
      by_cases cr : rm (mN K h π) x = 0
      · rw [decide_eq_true cr, Bool.true_or]
        unfold U3
        rw [canX_end (by rw [rm_top]; exact cr)]
      · rw [decide_eq_false cr, Bool.false_or, U3_hi cr]
    · exact hc3 x (by omega) h2
  | succ d ih =>
    intro j n τ3 hj hn' hk3 hc3 h14 h15
    obtain ⟨n, rfl⟩ : ∃ n', n = n' + 1 := ⟨n - 1, by omega⟩
    have hB3 := hB.keep hk3
    have hjn : j < mN K h π := by omega
    obtain ⟨b1, b2, x, y, b3, b4, b5⟩ := mB_ok hjn
    have ea : (decide (rm (mN K h π) e = 0) || anyk (j + 1) (fun k => hi3 K h π b m e k)) = ((decide (rm (mN K h π) e = 0) || anyk j (fun k => hi3 K h π b m e k)) || hi3 K h π b m e j) := by
      rw [Bool.or_assoc]
      rfl
    rw [lp_succ, fX6_canByThird_67, hB3.2.2.2.2.1, if_neg (fun q => by have := (J_le (by omega) (by omega) (by omega) (by omega)).mp q; omega), bit_get e (by omega) j (by omega)]
    cases hb : Nat.testBit e j with
    | true =>
      rw [if_neg (by decide), fX6_canByThird_279, J1, J_add]
      refine ih (j + 1) n τ3 (by omega) (by omega) hk3 hc3 ?_ h15
      have : hi3 K h π b m e j = false := by unfold hi3; rw [ok3_hi hjn, hb]; rfl
      rw [ea, this, Bool.or_false]
      exact h14
    | false =>
      have hlt := or_lt he hjn
      have hgt := or_gt hb
      rw [if_neg (by decide : ¬ false = true), if_pos rfl, bit_set e (by omega) j (by omega), J256, J_add, ck_J (by omega) (by omega) (by omega), ck_J (by omega) (by omega) (by omega), if_neg (by decide)]
      obtain ⟨τ4, p1, p2, p3⟩ := place_spec (τ := τ3) (π := π) (n := mN K h π) (B := mB K h π) (o := e) (sb := none) (mo := none) (N := N) (by omega) hK hH hB3.1 hB3.2.1 hB3.2.2.1 hn (fun k hk => by have := (mB_ok hk).1; omega) hB3.2.2.2.2 (fun _ => hB3.2.2.2.1) (by omega) (fun b q => by cases q)
      have p1' : fX6_place N (J (e : Int)) (-1) (-1) τ3 = some τ4 := p1
      have hk4 : KeepN τ τ4 := fun x a b => by rw [p3 x a]; exact hk3 x a b
      have hB4 := hB.keep hk4
      have hst : ∀ (v : Int32) (bb : Bool), v = bz bb → bb = ((decide (rm (mN K h π) e = 0) || anyk j (fun k => hi3 K h π b m e k)) || hi3 K h π b m e j) → Good (fX6_canByThird_183 N kc (lp (fX6_canByThird_67 N kc) (fun _ _ _ _ _ _ _ => none) n) (J (kb : Int)) (J (m : Int)) al (J (e : Int)) 1 (J (j : Int)) v (J (e : Int)) τ4) := by
        intro v bb hv hbb
        rw [fX6_canByThird_183, ck_J (by omega) (by omega) (by omega), J_nn (by omega), sg, fX6_canByThird_279, J1, J_add]
        refine ih (j + 1) n _ (by omega) (by omega) (fun x a b => by rw [stp_n b]; exact hk4 x a b) (fun x h1 h2 => ?_) ?_ ?_
        · rw [stp_s, upd_n (by omega), upd_n (by omega), p3 14 (by omega)]; exact hc3 x h1 h2
        · rw [stp_s, upd_s, ea, ← hbb, hv]
          cases bb <;> rfl
        · rw [stp_s, upd_n (by omega), p3 14 (by omega)]; exact h15
      rw [p1', calv_s, ck_J (by omega) (by omega) (by omega), J_nn (by omega), p3 14 (by omega), h14]
      cases hprev : (decide (rm (mN K h π) e = 0) || anyk j (fun k => hi3 K h π b m e k)) with
      | true =>
        rw [if_neg (by decide), fX6_canByThird_178]
        exact hst 1 true rfl (by rw [hprev]; rfl)
      | false =>
        have hA := (hc3 (e ||| 2 ^ j) (by omega) hlt).1
        have hdn : Nat.testBit (e ||| 2 ^ j) kb = true := by rw [tb_set, hd]; rfl
        unfold A3 at hA
        rw [if_pos hdn] at hA
        have eh : hi3 K h π b m e j = (tkB K (posM K h π none e) (mB K h π j) (tgt π (mB K h π j)) && U3 K h π b m ((e ||| 2 ^ j) ||| 2 ^ (mN K h π))) := by
          unfold hi3
          rw [ok3_hi hjn, hb, ps3_done hP hkb eb hd, or_swap]
          rfl
        rw [if_pos (by rfl), J_nn (by omega), hA]
        cases hu : U3 K h π b m ((e ||| 2 ^ j) ||| 2 ^ (mN K h π)) with
        | false =>
          rw [if_pos (by rfl), fX6_canByThird_182]
          exact hst 0 false rfl (by rw [hprev, eh, hu, Bool.and_false]; rfl)
        | true =>
          rw [if_neg (by decide)]
          simp (disch := omega) only [ck_J, J_nn]
          have hpl := hB4.2.2.2.1 (mB K h π j) b1
          rw [b4] at hpl
          have hcm := comesK_spec (τ := τ4) (sb := none) (mo := none) (N := N) (by omega) hK hH hP hB4 hjn hb (fun q => by cases q) (fun m q => by cases q) p2
          rw [hB4.2.2.2.2.2 j hjn, ck_J (by omega) (by omega) (by omega), J_nn (by omega), hpl, show rv (some y) = J (tgt π (mB K h π j) : Int) from by rw [tgt_some b4]; rfl, hcm, cali_s]
          have epos : plR K h π (dnb (mN K h π) (mB K h π) e) none none = posM K h π none e := rfl
          rw [epos]
          cases htk : tkB K (posM K h π none e) (mB K h π j) (tgt π (mB K h π j)) with
          | false =>
            rw [if_pos (by rfl), fX6_canByThird_182]
            exact hst 0 false rfl (by rw [hprev, eh, htk]; rfl)
          | true =>
            rw [if_neg (by decide), fX6_canByThird_178]
            exact hst 1 true rfl (by rw [hprev, eh, htk, hu]; rfl)
theorem phase_two (hN : 300 ≤ N) (hK : KOk K) (hH : HOk K h) (hP : PlanOk K h π) (hB : MB τ K h π) (hkb : kb < mN K h π) (eb : mB K h π kb = b) (hm : m < kM K) (hbm : h b ≠ some m) (he : e < 2 ^ (mN K h π)) (hd : Nat.testBit e kb = false) (kc : Int32 → Int32 → Int32 → Int32 → SS → Option (Int32 × SS)) (al : Int32) (Good : Option (Int32 × SS) → Prop) (hpost : ∀ τ3, KeepN τ τ3 → Can3 K h π b m kb e τ3 → Good (kc (J (kb : Int)) (J (m : Int)) al (J ((e : Int) + (-1))) τ3)) : ∀ (d j n : Nat) (τ3 : SS), j + d = mN K h π → d < n → KeepN τ τ3 → Can3 K h π b m kb (e + 1) τ3 → τ3 14 e = bz (anyk j (fun k => lo3 K h π b m e k)) → τ3 14 (256 + e) = bz (U3 K h π b m (e ||| 2 ^ (mN K h π))) → Good (lp (fX6_canByThird_288 N kc) (fun _ _ _ _ _ _ _ => none) n (J (kb : Int)) (J (m : Int)) al (J (e : Int)) 0 (J (j : Int)) τ3) := by
  have hn := mN_le (h := h) (π := π) hK
  have hW := hK.2.1
  have hM := hK.1
  have h2n : 2 ^ (mN K h π) ≤ 256 := Nat.pow_le_pow_right (by omega : 0 < 2) hn
  have eD : D3 K h π b m kb e = U3 K h π b m (e ||| 2 ^ (mN K h π)) := by unfold D3; rw [if_neg (by rw [hd]; decide)]
  have eA : A3 K h π b m kb e = U3 K h π b m e := by unfold A3; rw [if_neg (by rw [hd]; decide)]
  have plc : ∀ τ3, KeepN τ τ3 → ∃ τ4, fX6_place N (J (e : Int)) (-1) (-1) τ3 = some τ4 ∧ (∀ w, w < kW K → τ4 13 w = rv (posM K h π none e w)) ∧ (∀ x, x ≠ 13 → τ4 x = τ3 x) := fun τ3 hk3 => by
    have hB3 := hB.keep hk3
    exact place_spec (τ := τ3) (π := π) (n := mN K h π) (B := mB K h π) (o := e) (sb := none) (mo := none) (N := N) (by omega) hK hH hB3.1 hB3.2.1 hB3.2.2.1 hn (fun k hk => by have := (mB_ok hk).1; omega) hB3.2.2.2.2 (fun _ => hB3.2.2.2.1) (by omega) (fun b q => by cases q)
  intro d
  induction d with
  | zero =>
    intro j n τ3 hj hn' hk3 hc3 h14 h15
    obtain ⟨n, rfl⟩ : ∃ n', n = n' + 1 := ⟨n - 1, by omega⟩
    have hB3 := hB.keep hk3
    have ej : j = mN K h π := by omega
    subst ej
    obtain ⟨e1, e2, xb, yb, e3, e4, e5⟩ := mB_ok hkb
    rw [eb] at e1 e2 e3 e4
    obtain ⟨τ4, p1', p2, p3⟩ := plc τ3 hk3
    have hk4 : KeepN τ τ4 := fun x a b => by rw [p3 x a]; exact hk3 x a b
    have hB4 := hB.keep hk4
    have hfin : ∀ (v : Int32) (bb : Bool), v = bz bb → bb = U3 K h π b m e → Good (fX6_canByThird_457 N kc (J (kb : Int)) (J (m : Int)) al (J (e : Int)) v (J (e : Int)) τ4) := by
      intro v bb hv hbb
      rw [fX6_canByThird_457, ck_J (by omega) (by omega) (by omega), J_nn (by omega), sg, fX6_canByThird_458, Jm1, J_add]
      refine hpost _ (fun x a b => by rw [stp_n b]; exact hk4 x a b) (fun x h1 h2 => ?_)
      rw [stp_s]
      by_cases c : x = e
      · subst c
        rw [upd_s, upd_n (by omega), p3 14 (by omega), h15, eA, eD, ← hbb, hv]
        exact ⟨by cases bb <;> rfl, rfl⟩
      · rw [upd_n c, upd_n (by omega), p3 14 (by omega)]; exact hc3 x (by omega) h2
    rw [lp_succ, fX6_canByThird_288, hB3.2.2.2.2.1, if_pos ((J_le (by omega) (by omega) (by omega) (by omega)).mpr (by omega)), fX6_canByThird_395, if_pos rfl, p1', calv_s, ck_J (by omega) (by omega) (by omega), J_nn (by omega), p3 14 (by omega), h14]
    have eU := U3_lo (K := K) (h := h) (π := π) (b := b) (m := m) he
    cases hprev : anyk (mN K h π) (fun k => lo3 K h π b m e k) with
    | true =>
      rw [if_neg (by decide), fX6_canByThird_452]
      exact hfin 1 true rfl (by rw [eU, hprev, Bool.true_or])
    | false =>
      rw [hprev, Bool.false_or] at eU
      rw [if_pos (by rfl), J256, J_add, ck_J (by omega) (by omega) (by omega), show ((256 : Int) + (e : Int)) = ((256 + e : Nat) : Int) by omega, J_nn (by omega), h15]
      cases hu : U3 K h π b m (e ||| 2 ^ (mN K h π)) with
      | false =>
        rw [if_pos (by rfl), fX6_canByThird_456]
        exact hfin 0 false rfl (by rw [eU, hu, Bool.and_false])
      | true =>
        have hown : ∀ w, w < kW K → blk K w = b → posM K h π none e w ≠ some m := fun w hw hbw z => by
          have hx := uni_row hH.2.2.1 hH.fr_live e3 w hw hbw
          rw [posM_none hP] at z
          unfold mvR at z
          rw [hbw, ← eb, dnb_own hkb, hd, if_neg (by decide), hx] at z
          exact hbm (by rw [e3]; exact z)
        have hcm := comes_spec (τ := τ4) (b := b) (m := m) (N := N) (by omega) hK hH hB4.1 hB4.2.1 p2 (plR_ok hH.1 hP.1 (fun m q => by cases q)) plR_live e1 (by rw [e3]; simp) hm hown
        rw [if_neg (by decide), ck_J (by omega) (by omega) (by omega), J_nn (by omega), hB4.2.2.2.2.2 kb hkb, eb, hcm, cali_s]
        rw [ps3_lo hP he, hu, Bool.and_true] at eU
        cases htk : tkB K (posM K h π none e) b m with
        | false =>
          rw [if_pos (by rfl), fX6_canByThird_456]
          exact hfin 0 false rfl (by rw [eU, htk])
        | true =>
          rw [if_neg (by decide), fX6_canByThird_452]
          exact hfin 1 true rfl (by rw [eU, htk])
  | succ d ih =>
    intro j n τ3 hj hn' hk3 hc3 h14 h15
    obtain ⟨n, rfl⟩ : ∃ n', n = n' + 1 := ⟨n - 1, by omega⟩
    have hB3 := hB.keep hk3
    have hjn : j < mN K h π := by omega
    obtain ⟨b1, b2, x, y, b3, b4, b5⟩ := mB_ok hjn
    have ea : anyk (j + 1) (fun k => lo3 K h π b m e k) = (anyk j (fun k => lo3 K h π b m e k) || lo3 K h π b m e j) := rfl
    have el : lo3 K h π b m e j = ((!(Nat.testBit e j) && !(decide (mB K h π j = b)) && tkB K (posM K h π none e) (mB K h π j) (tgt π (mB K h π j))) && U3 K h π b m (e ||| 2 ^ j)) := by
      unfold lo3
      rw [ok3_lo he hjn, ps3_lo hP he]
    have skip : ∀ τ4, KeepN τ τ4 → τ4 14 = τ3 14 → lo3 K h π b m e j = false → Good (fX6_canByThird_389 N kc (lp (fX6_canByThird_288 N kc) (fun _ _ _ _ _ _ _ => none) n) (J (kb : Int)) (J (m : Int)) al (J (e : Int)) 0 (J (j : Int)) τ4) := by
      intro τ4 hk4 h4 hz
      rw [fX6_canByThird_389, J1, J_add]
      refine ih (j + 1) n τ4 (by omega) (by omega) hk4 (fun x h1 h2 => by rw [h4]; exact hc3 x h1 h2) ?_ (by rw [h4]; exact h15)
      rw [h4, ea, hz, Bool.or_false]
      exact h14
    rw [lp_succ, fX6_canByThird_288, hB3.2.2.2.2.1, if_neg (fun q => by have := (J_le (by omega) (by omega) (by omega) (by omega)).mp q; omega), if_pos rfl, bit_get e (by omega) j (by omega)]
    cases hb : Nat.testBit e j with
    | true =>
      rw [if_neg (by decide)]
      exact skip τ3 hk3 rfl (by rw [el, hb]; rfl)
    | false =>
      have hlt := or_lt he hjn
      have hgt := or_gt hb
      rw [if_neg (by decide : ¬ false = true), if_pos rfl]
      have ckb := J_eq (a := (j : Int)) (b := (kb : Int)) (by omega) (by omega) (by omega) (by omega)
      by_cases c : j = kb
      · rw [if_pos (ckb.mpr (by omega))]
        exact skip τ3 hk3 rfl (by rw [el, c, eb, decide_eq_true rfl]; simp)
      · have hne : ¬ mB K h π j = b := fun q => c (gb_inj (c := mvd K h π) (j := kW K) hjn hkb (q.trans eb.symm))
        rw [hb, decide_eq_false hne] at el
        obtain ⟨τ4, p1', p2, p3⟩ := plc τ3 hk3
        have hk4 : KeepN τ τ4 := fun x a b => by rw [p3 x a]; exact hk3 x a b
        have hB4 := hB.keep hk4
        have hst : ∀ (v : Int32) (bb : Bool), v = bz bb → bb = (anyk j (fun k => lo3 K h π b m e k) || lo3 K h π b m e j) → Good (fX6_canByThird_388 N kc (lp (fX6_canByThird_288 N kc) (fun _ _ _ _ _ _ _ => none) n) (J (kb : Int)) (J (m : Int)) al (J (e : Int)) 0 (J (j : Int)) v (J (e : Int)) τ4) := by
          intro v bb hv hbb
          rw [fX6_canByThird_388, ck_J (by omega) (by omega) (by omega), J_nn (by omega), sg, fX6_canByThird_389, J1, J_add]
          refine ih (j + 1) n _ (by omega) (by omega) (fun x a b => by rw [stp_n b]; exact hk4 x a b) (fun x h1 h2 => ?_) ?_ ?_
          · rw [stp_s, upd_n (by omega), upd_n (by omega), p3 14 (by omega)]; exact hc3 x h1 h2
          · rw [stp_s, upd_s, ea, ← hbb, hv]
            cases bb <;> rfl
          · rw [stp_s, upd_n (by omega), p3 14 (by omega)]; exact h15
        rw [if_neg (fun z => c (by have := ckb.mp z; omega)), p1', calv_s, ck_J (by omega) (by omega) (by omega), J_nn (by omega), p3 14 (by omega), h14]
        cases hprev : anyk j (fun k => lo3 K h π b m e k) with
        | true =>
          rw [if_neg (by decide), fX6_canByThird_383]
          exact hst 1 true rfl (by rw [hprev]; rfl)
        | false =>
          have hA := (hc3 (e ||| 2 ^ j) (by omega) hlt).1
          have hdn : Nat.testBit (e ||| 2 ^ j) kb = false := by rw [tb_set, hd, decide_eq_false c]; rfl
          unfold A3 at hA
          rw [if_neg (by rw [hdn]; decide)] at hA
          rw [if_pos (by rfl), bit_set e (by omega) j (by omega), ck_J (by omega) (by omega) (by omega), J_nn (by omega), hA]
          cases hu : U3 K h π b m (e ||| 2 ^ j) with
          | false =>
            rw [if_pos (by rfl), fX6_canByThird_387]
            exact hst 0 false rfl (by rw [hprev, el, hu, Bool.and_false]; rfl)
          | true =>
            rw [if_neg (by decide)]
            simp (disch := omega) only [ck_J, J_nn]
            have hpl := hB4.2.2.2.1 (mB K h π j) b1
            rw [b4] at hpl
            have hcm := comesK_spec (τ := τ4) (sb := none) (mo := none) (N := N) (by omega) hK hH hP hB4 hjn hb (fun q => by cases q) (fun m q => by cases q) p2
            rw [hB4.2.2.2.2.2 j hjn, ck_J (by omega) (by omega) (by omega), J_nn (by omega), hpl, show rv (some y) = J (tgt π (mB K h π j) : Int) from by rw [tgt_some b4]; rfl, hcm, cali_s]
            have epos : plR K h π (dnb (mN K h π) (mB K h π) e) none none = posM K h π none e := rfl
            rw [epos]
            cases htk : tkB K (posM K h π none e) (mB K h π j) (tgt π (mB K h π j)) with
            | false =>
              rw [if_pos (by rfl), fX6_canByThird_387]
              exact hst 0 false rfl (by rw [hprev, el, htk]; rfl)
            | true =>
              rw [if_neg (by decide), fX6_canByThird_383]
              exact hst 1 true rfl (by rw [hprev, el, htk, hu]; rfl)
theorem phase_one (hN : 300 ≤ N) (hK : KOk K) (hH : HOk K h) (hP : PlanOk K h π) (hB : MB τ K h π) (hkb : kb < mN K h π) (eb : mB K h π kb = b) (hm : m < kM K) (hbm : h b ≠ some m) (hpm : π b ≠ some m) (he : e < 2 ^ (mN K h π)) (hd : Nat.testBit e kb = false) (kc : Int32 → Int32 → Int32 → Int32 → SS → Option (Int32 × SS)) (al : Int32) (Good : Option (Int32 × SS) → Prop) (hpost : ∀ τ3, KeepN τ τ3 → Can3 K h π b m kb e τ3 → Good (kc (J (kb : Int)) (J (m : Int)) al (J ((e : Int) + (-1))) τ3)) : ∀ (d j n : Nat) (τ3 : SS), j + d = mN K h π → d < n → KeepN τ τ3 → Can3 K h π b m kb (e + 1) τ3 → τ3 14 e = 0 → τ3 14 (256 + e) = bz (anyk j (fun k => hi3 K h π b m e k)) → Good (lp (fX6_canByThird_67 N kc) (fun _ _ _ _ _ _ _ => none) n (J (kb : Int)) (J (m : Int)) al (J (e : Int)) 0 (J (j : Int)) τ3) := by
  have hn := mN_le (h := h) (π := π) hK
  have hW := hK.2.1
  have hM := hK.1
  have h2n : 2 ^ (mN K h π) ≤ 256 := Nat.pow_le_pow_right (by omega : 0 < 2) hn
  have hr : rm (mN K h π) e ≠ 0 := fun z => by
    have := rm_zero.mp z kb hkb
    rw [hd] at this
    cases this
  obtain ⟨e1, e2, xb, yb, e3, e4, e5⟩ := mB_ok hkb
  rw [eb] at e1 e2 e3 e4
  intro d
  induction d with
  | zero =>
    intro j n τ3 hj hn' hk3 hc3 h14 h15
    obtain ⟨n, rfl⟩ : ∃ n', n = n' + 1 := ⟨n - 1, by omega⟩
    have hB3 := hB.keep hk3
    have ej : j = mN K h π := by omega
    subst ej
    rw [lp_succ, fX6_canByThird_67, hB3.2.2.2.2.1, if_pos ((J_le (by omega) (by omega) (by omega) (by omega)).mpr (by omega))]
    exact phase_two hN hK hH hP hB hkb eb hm hbm he hd kc al Good hpost (mN K h π) 0 N τ3 (by omega) (by omega) hk3 hc3 h14 (by rw [h15, U3_hi hr])
  | succ d ih =>
    intro j n τ3 hj hn' hk3 hc3 h14 h15
    obtain ⟨n, rfl⟩ : ∃ n', n = n' + 1 := ⟨n - 1, by omega⟩
    have hB3 := hB.keep hk3
    have hjn : j < mN K h π := by omega
    obtain ⟨b1, b2, x, y, b3, b4, b5⟩ := mB_ok hjn
    have ea : anyk (j + 1) (fun k => hi3 K h π b m e k) = (anyk j (fun k => hi3 K h π b m e k) || hi3 K h π b m e j) := rfl
    rw [lp_succ, fX6_canByThird_67, hB3.2.2.2.2.1, if_neg (fun q => by have := (J_le (by omega) (by omega) (by omega) (by omega)).mp q; omega), bit_get e (by omega) j (by omega)]
    cases hb : Nat.testBit e j with
    | true =>
      rw [if_neg (by decide), fX6_canByThird_279, J1, J_add]
      refine ih (j + 1) n τ3 (by omega) (by omega) hk3 hc3 h14 ?_
      have : hi3 K h π b m e j = false := by unfold hi3; rw [ok3_hi hjn, hb]; rfl
      rw [ea, this, Bool.or_false]
      exact h15
    | false =>
      have hlt := or_lt he hjn
      have hgt := or_gt hb
      rw [if_neg (by decide : ¬ false = true), if_pos rfl, bit_set e (by omega) j (by omega), J256, J_add, ck_J (by omega) (by omega) (by omega), ck_J (by omega) (by omega) (by omega), if_pos rfl, ck_J (by omega) (by omega) (by omega), J_nn (by omega), hB3.2.2.2.2.2 kb hkb, eb]
      obtain ⟨τ4, p1, p2, p3⟩ := place_spec (τ := τ3) (π := π) (n := mN K h π) (B := mB K h π) (o := e) (sb := some b) (mo := some m) (N := N) (by omega) hK hH hB3.1 hB3.2.1 hB3.2.2.1 hn (fun k hk => by have := (mB_ok hk).1; omega) hB3.2.2.2.2 (fun _ => hB3.2.2.2.1) (by omega) (fun b1 q => by cases q; omega)
      have p1' : fX6_place N (J (e : Int)) (J (b : Int)) (J (m : Int)) τ3 = some τ4 := p1
      have hk4 : KeepN τ τ4 := fun x a b => by rw [p3 x a]; exact hk3 x a b
      have hB4 := hB.keep hk4
      have e256 : (256 : Int) + (e : Int) = ((256 + e : Nat) : Int) := by omega
      have e256' : (256 : Int) + ((e ||| 2 ^ j : Nat) : Int) = ((256 + (e ||| 2 ^ j) : Nat) : Int) := by omega
      have hst : ∀ (v : Int32) (bb : Bool), v = bz bb → bb = (anyk j (fun k => hi3 K h π b m e k) || hi3 K h π b m e j) → Good (fX6_canByThird_278 N kc (lp (fX6_canByThird_67 N kc) (fun _ _ _ _ _ _ _ => none) n) (J (kb : Int)) (J (m : Int)) al (J (e : Int)) 0 (J (j : Int)) v (J ((256 + e : Nat) : Int)) τ4) := by
        intro v bb hv hbb
        rw [fX6_canByThird_278, ck_J (by omega) (by omega) (by omega), J_nn (by omega), sg, fX6_canByThird_279, J1, J_add]
        refine ih (j + 1) n _ (by omega) (by omega) (fun x a b => by rw [stp_n b]; exact hk4 x a b) (fun x h1 h2 => ?_) ?_ ?_
        · rw [stp_s, upd_n (by omega), upd_n (by omega), p3 14 (by omega)]; exact hc3 x h1 h2
        · rw [stp_s, upd_n (by omega), p3 14 (by omega)]; exact h14
        · rw [stp_s, upd_s, ea, ← hbb, hv]
          cases bb <;> rfl
      have hcm := comesK_spec (τ := τ4) (sb := some b) (mo := some m) (N := N) (by omega) hK hH hP hB4 hjn hb (fun q => by
        have hq : b = mB K h π j := Option.some.inj q
        rw [← hq, tgt_some e4]
        intro z
        exact hpm (by rw [e4]; exact z.symm)) (fun m1 q => by cases q; exact hm) p2
      have hpl := hB4.2.2.2.1 (mB K h π j) b1
      rw [b4] at hpl
      rw [p1', calv_s]
      simp (disch := omega) only [ck_J, J_nn]
      rw [hB4.2.2.2.2.2 j hjn, ck_J (by omega) (by omega) (by omega), J_nn (by omega), hpl, show rv (some y) = J (tgt π (mB K h π j) : Int) from by rw [tgt_some b4]; rfl, hcm, cali_s, J_add, e256, e256', ck_J (by omega) (by omega) (by omega), J_nn (by omega), J_nn (by omega), p3 14 (by omega), h15]
      have eh : hi3 K h π b m e j = (tkB K (plR K h π (dnb (mN K h π) (mB K h π) e) (some b) (some m)) (mB K h π j) (tgt π (mB K h π j)) && U3 K h π b m ((e ||| 2 ^ j) ||| 2 ^ (mN K h π))) := by
        unfold hi3
        rw [ok3_hi hjn, hb, ps3_third hH hP hkb eb hd, or_swap]
        rfl
      cases hprev : anyk j (fun k => hi3 K h π b m e k) with
      | true =>
        rw [if_neg (by decide), fX6_canByThird_273]
        exact hst 1 true rfl (by rw [hprev]; rfl)
      | false =>
        rw [if_pos (by rfl)]
        cases htk : tkB K (plR K h π (dnb (mN K h π) (mB K h π) e) (some b) (some m)) (mB K h π j) (tgt π (mB K h π j)) with
        | false =>
          rw [if_pos (by rfl), fX6_canByThird_277]
          exact hst 0 false rfl (by rw [hprev, eh, htk]; rfl)
        | true =>
          rw [if_neg (by decide)]
          have hcc := hc3 (e ||| 2 ^ j) (by omega) hlt
          have ckb := J_eq (a := (j : Int)) (b := (kb : Int)) (by omega) (by omega) (by omega) (by omega)
          have go : ∀ v : Int32, v = bz (U3 K h π b m ((e ||| 2 ^ j) ||| 2 ^ (mN K h π))) → Good (if v = 0 then fX6_canByThird_277 N kc (lp (fX6_canByThird_67 N kc) (fun _ _ _ _ _ _ _ => none) n) (J (kb : Int)) (J (m : Int)) al (J (e : Int)) 0 (J (j : Int)) (J ((256 + e : Nat) : Int)) τ4 else fX6_canByThird_273 N kc (lp (fX6_canByThird_67 N kc) (fun _ _ _ _ _ _ _ => none) n) (J (kb : Int)) (J (m : Int)) al (J (e : Int)) 0 (J (j : Int)) (J ((256 + e : Nat) : Int)) τ4) := by
            intro v hv
            rw [hv]
            cases hu : U3 K h π b m ((e ||| 2 ^ j) ||| 2 ^ (mN K h π)) with
            | false =>
              rw [if_pos (by rfl), fX6_canByThird_277]
              exact hst 0 false rfl (by rw [hprev, eh, htk, hu]; rfl)
            | true =>
              rw [if_neg (by decide), fX6_canByThird_273]
              exact hst 1 true rfl (by rw [hprev, eh, htk, hu]; rfl)
          by_cases c : j = kb
          · rw [if_pos (ckb.mpr (by omega))]
            refine go _ ?_
            rw [hcc.1]
            unfold A3
            rw [if_pos (by rw [tb_set, c]; simp)]
          · rw [if_neg (fun z => c (by have := ckb.mp z; omega))]
            refine go _ ?_
            rw [hcc.2]
            unfold D3
            rw [if_neg (by rw [tb_set, hd, decide_eq_false c]; decide)]
end PHASES
