def WM (least : Int64) (found : Int32) (o : Wt) : Prop := match o with
  | none => found = J (-1)
  | some x => found = J x.1 ∧ least = LL x.2
theorem cVa_spent {K : Kt} {h : Ro} {p t T : Int} {A : Ac} (e : A.2.1 = true) : cVa K h p t T A = LL (-5) := by unfold cVa; rw [if_pos e]
theorem cVa_none {K : Kt} {h : Ro} {p t T : Int} {A : Ac} (e : A.2.1 = false) (e2 : bestOf (mvs K h) A.2.2 = none) : cVa K h p t T A = LL (-1) := by unfold cVa; rw [e, if_neg (by decide), e2]
theorem cVa_some {K : Kt} {h b : Ro} {p t T : Int} {A : Ac} (e : A.2.1 = false) (e2 : bestOf (mvs K h) A.2.2 = some b) : cVa K h p t T A = LL ((T - t) * p + cst K h b (kW K)) := by unfold cVa; rw [e, if_neg (by decide), e2]
section WAIT98
variable {τ : SS} {K : Kt} {h : Ro} {m N : Nat} {p t : Int} {kept : Int32}
theorem wait98 (hN : 1000000 ≤ N) (hK : KOk K) (hH : HOk K h) (hm : m < kM K) (ht : 0 ≤ t ∧ t < 2147483648) (hp : 0 ≤ p ∧ p ≤ 1000) (hl : ∀ w, (h w).isSome = true → kd K w = 4 → t < kg K w) (hR : MdRep τ K) (hA : MdAt τ K 7 h) (h10 : τ 0 10 = J t) (h11 : τ 0 11 = J p) (h15 : ∀ w, w < kW K → τ 15 w = bz (ovf h w)) : ∀ (d j n : Nat) (τ2 : SS) (least : Int64) (found : Int32), j + d = kW K → d < n → KeepC τ τ2 → MdOv τ2 K (ovf h) → ((ws K h m p t j).1 = false → WM least found (ws K h m p t j).2) → ∃ τ1, lp (fX6_wait_98 N) (fun _ _ _ _ _ _ _ => none) n (J (m : Int)) kept least found (bz (ws K h m p t j).1) (J (j : Int)) τ2 = some (wres (ws K h m p t (kW K)), τ1) ∧ τ1 0 13 = kept ∧ MdOv τ1 K (ovf h) ∧ KeepC τ τ1 := by
  have hW := hK.2.1
  have hM := hK.1
  -- the end
  have fin : ∀ (τ2 : SS) (least : Int64) (found : Int32) (j : Nat), KeepC τ τ2 → MdOv τ2 K (ovf h) → ws K h m p t (kW K) = ws K h m p t j → ((ws K h m p t j).1 = false → WM least found (ws K h m p t j).2) → ∃ τ1, fX6_wait_224 N kept found (bz (ws K h m p t j).1) τ2 = some (wres (ws K h m p t (kW K)), τ1) ∧ τ1 0 13 = kept ∧ MdOv τ1 K (ovf h) ∧ KeepC τ τ1 := by
    intro τ2 least found j hk hO ej hw
    rw [fX6_wait_224, sg, fX6_wait_241, fX6_wait_241, ej]
    have st : ∀ v : Int32, v = wres (ws K h m p t j) → ∃ τ1, some (v, stp τ2 0 (upd (τ2 0) 13 kept)) = some (wres (ws K h m p t j), τ1) ∧ τ1 0 13 = kept ∧ MdOv τ1 K (ovf h) ∧ KeepC τ τ1 := by
      intro v hv
      rw [hv]
      exact ⟨_, rfl, by rw [stp_s, upd_s], fun w hw => by rw [stp_n (by omega)]; exact hO w hw, hk.trans ⟨fun k a _ _ _ => stp_n a, fun i a _ _ _ => by rw [stp_s, upd_n a]⟩⟩
    cases e1 : (ws K h m p t j).1 with
    | true =>
      rw [if_neg (by decide)]
      exact st _ (by unfold wres; rw [if_pos e1]; rfl)
    | false =>
      rw [if_pos bz_f]
      have hw := hw e1
      refine st _ ?_
      unfold wres
      rw [e1, if_neg (by decide)]
      cases e2 : (ws K h m p t j).2 with
      | none => rw [e2] at hw; exact hw
      | some x => rw [e2] at hw; exact hw.1
  intro d
  induction d with
  | zero =>
    intro j n τ2 least found hj hn hk hO hw
    obtain ⟨n, rfl⟩ : ∃ n', n = n' + 1 := ⟨n - 1, by omega⟩
    have ej : j = kW K := by omega
    rw [lp_succ, fX6_wait_98, hk.2 3 (by omega) (by omega) (by omega) (by omega), hR.2.1, if_pos ((J_le (by omega) (by omega) (by omega) (by omega)).mpr (by omega))]
    exact fin τ2 least found j hk hO (by rw [ej]) hw
  | succ d ih =>
    intro j n τ2 least found hj hn hk hO hw
    obtain ⟨n, rfl⟩ : ∃ n', n = n' + 1 := ⟨n - 1, by omega⟩
    have hjW : j < kW K := by omega
    have kj := hK.2.2.2 j hjW
    obtain ⟨-, -, m5, m6⟩ := hR.2.2.2 j hjW
    have es : ws K h m p t (j + 1) = if (ws K h m p t j).1 = true then ws K h m p t j else if ((h j).isSome && kd K j == 4) = true then wst K h m p t (kg K j) (ws K h m p t j).2 else ws K h m p t j := rfl
    rw [lp_succ, fX6_wait_98, hk.2 3 (by omega) (by omega) (by omega) (by omega), hR.2.1, if_neg (fun q => by have := (J_le (by omega) (by omega) (by omega) (by omega)).mp q; omega)]
    cases e1 : (ws K h m p t j).1 with
    | true =>
      have hst := ws_stop e1 (d + 1)
      rw [show j + (d + 1) = kW K by omega] at hst
      rw [if_neg (by decide)]
      have := fin τ2 least found j hk hO hst hw
      rw [e1] at this
      exact this
    | false =>
      have hw1 := hw e1
      rw [e1, if_neg (by decide)] at es
      rw [if_pos bz_f, ck_J (by omega) (by omega) (by omega), J_nn (by omega), hk.1 15 (by omega) (by omega) (by omega) (by omega), h15 j hjW]
      have skip : ((h j).isSome && kd K j == 4) = false → ∃ τ1, fX6_wait_218 N (lp (fX6_wait_98 N) (fun _ _ _ _ _ _ _ => none) n) (J (m : Int)) kept least found (bz false) (J (j : Int)) τ2 = some (wres (ws K h m p t (kW K)), τ1) ∧ τ1 0 13 = kept ∧ MdOv τ1 K (ovf h) ∧ KeepC τ τ1 := by
        intro z
        rw [z, if_neg (by decide)] at es
        have := ih (j + 1) n τ2 least found (by omega) (by omega) hk hO (by rw [es]; exact hw)
        rw [es, e1] at this
        rw [fX6_wait_218, J1, J_add]
        exact this
      cases hj0 : h j with
      | none =>
        rw [ovf_none hj0, if_neg (by decide)]
        exact skip (by rw [hj0]; rfl)
      | some x =>
        have c4 : J (kd K j : Int) = (4 : Int32) ↔ (kd K j : Int) = 4 := J_eq (a := (kd K j : Int)) (b := 4) (by omega) (by omega) (by omega) (by omega)
        rw [ovf_some hj0, if_pos bz_f, ck_J (by omega) (by omega) (by omega), hk.1 5 (by omega) (by omega) (by omega) (by omega), m5]
        by_cases c : kd K j = 4
        · have hlt := hl j (by rw [hj0]; rfl) c
          have z : ((h j).isSome && kd K j == 4) = true := by rw [hj0, c]; rfl
          rw [z, if_pos rfl] at es
          have hwB := ws_B (m := m) hK ht hp hl j (by omega)
          have hT : 0 ≤ t ∧ t ≤ kg K j ∧ kg K j < 2147483648 := ⟨ht.1, by omega, by omega⟩
          obtain ⟨τ3, v1, v2, v3⟩ := costAt_spec (τ := τ2) (m := m) (T := kg K j) (t := t) (p := p) hN hK hH hm hT hp (hR.keep (hk.2 0 (by omega) (by omega) (by omega) (by omega)) (hk.2 3 (by omega) (by omega) (by omega) (by omega)) (fun k a b => hk.1 k (by omega) (by omega) (by omega) (by omega))) (fun w z hw hz => by rw [hk.1 7 (by omega) (by omega) (by omega) (by omega)]; exact hA w z hw hz) (by rw [hk.2 10 (by omega) (by omega) (by omega) (by omega)]; exact h10) (by rw [hk.2 11 (by omega) (by omega) (by omega) (by omega)]; exact h11) (fun w hw => by rw [hk.1 15 (by omega) (by omega) (by omega) (by omega)]; exact h15 w hw)
          have k3 := hk.trans v3
          have g10 : τ3 0 10 = J t := by rw [k3.2 10 (by omega) (by omega) (by omega) (by omega)]; exact h10
          rw [if_pos (c4.mpr (by omega)), ck_J (by omega) (by omega) (by omega), hk.1 6 (by omega) (by omega) (by omega) (by omega), m6, v1, call_s]
          unfold wst wac at es
          generalize srch K h (gE m) (kg K j) = A at es ⊢
          -- on: what is kept, told anew
          have on : ∀ (least1 : Int64) (found1 : Int32) (b : Bool), A.2.1 = b → (b = false → WM least1 found1 (if b = true then (ws K h m p t j).2 else wnw K h p t (kg K j) (bestOf (mvs K h) A.2.2) (ws K h m p t j).2)) → ∃ τ1, fX6_wait_218 N (lp (fX6_wait_98 N) (fun _ _ _ _ _ _ _ => none) n) (J (m : Int)) kept least1 found1 (bz b) (J (j : Int)) τ3 = some (wres (ws K h m p t (kW K)), τ1) ∧ τ1 0 13 = kept ∧ MdOv τ1 K (ovf h) ∧ KeepC τ τ1 := by
            intro least1 found1 b hb hwm
            have := ih (j + 1) n τ3 least1 found1 (by omega) (by omega) k3 v2 (by rw [es, hb]; exact hwm)
            rw [es, hb] at this
            rw [fX6_wait_218, J1, J_add]
            exact this
          cases hsp : A.2.1 with
          | true =>
            rw [hsp] at on
            rw [cVa_spent hsp, if_pos (show lg_cmp (LL (-5)) (-5) = 0 by decide), fX6_wait_165, if_pos (show lg_cmp (LL (-5)) 0 < 0 by decide)]
            exact on least found true rfl (fun z => by cases z)
          | false =>
            rw [hsp] at on
            cases hbo : bestOf (mvs K h) A.2.2 with
            | none =>
              rw [hbo] at on
              rw [cVa_none hsp hbo, if_neg (show ¬ lg_cmp (LL (-1)) (-5) = 0 by decide), fX6_wait_165, if_pos (show lg_cmp (LL (-1)) 0 < 0 by decide)]
              exact on least found false rfl (fun _ => hw1)
            | some b =>
              rw [hbo] at on
              have hbd := wC_bd (h := h) (b := b) hK hT hp
              have on' : ∀ (least1 : Int64) (found1 : Int32), WM least1 found1 (wbest (ws K h m p t j).2 (kg K j - t) ((kg K j - t) * p + cst K h b (kW K))) → ∃ τ1, fX6_wait_218 N (lp (fX6_wait_98 N) (fun _ _ _ _ _ _ _ => none) n) (J (m : Int)) kept least1 found1 (bz false) (J (j : Int)) τ3 = some (wres (ws K h m p t (kW K)), τ1) ∧ τ1 0 13 = kept ∧ MdOv τ1 K (ovf h) ∧ KeepC τ τ1 := fun l1 f1 hq => on l1 f1 false rfl (fun _ => hq)
              rw [cVa_some hsp hbo]
              generalize hC : (kg K j - t) * p + cst K h b (kW K) = C at on'
              have hCb : 0 ≤ C ∧ C < 4611686018427387904 := by omega
              have n5 := LL_eq (a := C) (b := -5) (by omega) (by omega) (by omega) (by omega)
              have n0 := LL_lt (a := C) (b := 0) (by omega) (by omega) (by omega) (by omega)
              rw [if_neg (fun z => by have := n5.mp ((lg_cmp_eq _ _).mp z); omega), fX6_wait_165, if_neg (fun z => by have := n0.mp ((lg_cmp_lt _ _).mp z); omega), g10, J_sub]
              have yes : ∀ o, wbest o (kg K j - t) C = some (kg K j - t, C) → (ws K h m p t j).2 = o → ∃ τ1, fX6_wait_206 N (lp (fX6_wait_98 N) (fun _ _ _ _ _ _ _ => none) n) (J (m : Int)) kept 0 (J (j : Int)) (J (kg K j)) (LL C) τ3 = some (wres (ws K h m p t (kW K)), τ1) ∧ τ1 0 13 = kept ∧ MdOv τ1 K (ovf h) ∧ KeepC τ τ1 := by
                intro o e e2
                rw [fX6_wait_206, g10, J_sub]
                refine on' (LL C) (J (kg K j - t)) ?_
                rw [e2, e]
                exact ⟨rfl, rfl⟩
              cases ho : (ws K h m p t j).2 with
              | none =>
                rw [ho] at hw1
                have e3 : found = J (-1) := hw1
                rw [if_pos (show found = -1 from e3)]
                exact yes none rfl ho
              | some y =>
                obtain ⟨tk0, c0⟩ := y
                rw [ho] at hw1 hwB on'
                obtain ⟨e3, e4⟩ := hw1
                obtain ⟨b1, b2, b3, b4⟩ := hwB
                dsimp only at e3 e4 b1 b2 b3 b4
                have nm : J tk0 = (-1 : Int32) ↔ tk0 = -1 := by rw [Jm1]; exact J_eq (a := tk0) (b := -1) (by omega) (by omega) (by omega) (by omega)
                have clt := LL_lt (a := C) (b := c0) (by omega) (by omega) (by omega) (by omega)
                have ceq := LL_eq (a := C) (b := c0) (by omega) (by omega) (by omega) (by omega)
                have cle := J_le (a := tk0) (b := kg K j - t) (by omega) (by omega) (by omega) (by omega)
                have no : ¬ (C < c0 ∨ (C = c0 ∧ kg K j - t < tk0)) → ∃ τ1, fX6_wait_218 N (lp (fX6_wait_98 N) (fun _ _ _ _ _ _ _ => none) n) (J (m : Int)) kept (LL c0) (J tk0) 0 (J (j : Int)) τ3 = some (wres (ws K h m p t (kW K)), τ1) ∧ τ1 0 13 = kept ∧ MdOv τ1 K (ovf h) ∧ KeepC τ τ1 := by
                  intro q
                  have e : wbest (some (tk0, c0)) (kg K j - t) C = some (tk0, c0) := if_neg q
                  refine on' (LL c0) (J tk0) ?_
                  rw [e]
                  exact ⟨rfl, rfl⟩
                have yes' : (C < c0 ∨ (C = c0 ∧ kg K j - t < tk0)) → ∃ τ1, fX6_wait_206 N (lp (fX6_wait_98 N) (fun _ _ _ _ _ _ _ => none) n) (J (m : Int)) kept 0 (J (j : Int)) (J (kg K j)) (LL C) τ3 = some (wres (ws K h m p t (kW K)), τ1) ∧ τ1 0 13 = kept ∧ MdOv τ1 K (ovf h) ∧ KeepC τ τ1 := fun q => yes (some (tk0, c0)) (if_pos q) ho
                rw [e3, e4, if_neg (show ¬ J tk0 = (-1 : Int32) from fun z => by have := nm.mp z; omega)]
                by_cases d1 : C < c0
                · rw [if_pos ((lg_cmp_lt _ _).mpr (clt.mpr d1))]
                  exact yes' (Or.inl d1)
                · rw [if_neg (fun z => d1 (clt.mp ((lg_cmp_lt _ _).mp z)))]
                  by_cases d2 : C = c0
                  · rw [if_pos ((lg_cmp_eq _ _).mpr (ceq.mpr d2))]
                    by_cases d3 : tk0 ≤ kg K j - t
                    · rw [if_pos (cle.mpr d3)]
                      exact no (by omega)
                    · rw [if_neg (fun z => d3 (cle.mp z))]
                      exact yes' (by omega)
                  · rw [if_neg (fun z => d2 (ceq.mp ((lg_cmp_eq _ _).mp z)))]
                    exact no (by omega)
        · rw [if_neg (fun z => c (by have := c4.mp z; omega))]
          exact skip (by simp [c])
theorem wait29 (hN : 1000000 ≤ N) (hK : KOk K) (hH : HOk K h) (hm : m < kM K) (ht : 0 ≤ t ∧ t < 2147483648) (hp : 0 ≤ p ∧ p ≤ 1000) (hl : ∀ w, (h w).isSome = true → kd K w = 4 → t < kg K w) (hR : MdRep τ K) (hO : MdOv τ K (ovf h)) (hA : MdAt τ K 7 h) (h10 : τ 0 10 = J t) (h11 : τ 0 11 = J p) : ∃ τ1, lp (fX6_wait_29 N) (fun _ _ _ _ => none) N (J (m : Int)) kept 0 τ = some (wres (ws K h m p t (kW K)), τ1) ∧ τ1 0 13 = kept ∧ MdOv τ1 K (ovf h) ∧ (∀ k, k ≠ 0 → k ≠ 8 → k ≠ 9 → k ≠ 10 → k ≠ 15 → τ1 k = τ k) ∧ ∀ i, i ≠ 13 → i ≠ 16 → i ≠ 17 → i ≠ 18 → τ1 0 i = τ 0 i := by
  have hW := hK.2.1
  have hM := hK.1
  have key : ∀ (d j n : Nat) (τ2 : SS), j + d = kW K → d < n → (∀ k, k ≠ 15 → τ2 k = τ k) → (∀ w, w < j → τ2 15 w = bz (ovf h w)) → ∃ τ1, lp (fX6_wait_29 N) (fun _ _ _ _ => none) n (J (m : Int)) kept (J (j : Int)) τ2 = some (wres (ws K h m p t (kW K)), τ1) ∧ τ1 0 13 = kept ∧ MdOv τ1 K (ovf h) ∧ (∀ k, k ≠ 0 → k ≠ 8 → k ≠ 9 → k ≠ 10 → k ≠ 15 → τ1 k = τ k) ∧ ∀ i, i ≠ 13 → i ≠ 16 → i ≠ 17 → i ≠ 18 → τ1 0 i = τ 0 i := by
    intro d
    induction d with
    | zero =>
      intro j n τ2 hj hn hk h15
      obtain ⟨n, rfl⟩ : ∃ n', n = n' + 1 := ⟨n - 1, by omega⟩
      have hR2 : MdRep τ2 K := hR.keep (by rw [hk 0 (by omega)]) (by rw [hk 0 (by omega)]) (fun k a b => hk k (by omega))
      have hA2 : MdAt τ2 K 7 h := fun w z hw hz => by rw [hk 7 (by omega)]; exact hA w z hw hz
      have g10 : τ2 0 10 = J t := by rw [hk 0 (by omega)]; exact h10
      have g11 : τ2 0 11 = J p := by rw [hk 0 (by omega)]; exact h11
      have g15 : ∀ w, w < kW K → τ2 15 w = bz (ovf h w) := fun w hw => h15 w (by omega)
      have hT : 0 ≤ t ∧ t ≤ t ∧ t < 2147483648 := ⟨ht.1, Int.le_refl _, ht.2⟩
      obtain ⟨τ3, v1, v2, v3⟩ := costAt_spec (τ := τ2) (m := m) (T := t) (t := t) (p := p) hN hK hH hm hT hp hR2 hA2 g10 g11 g15
      have e0 : ws K h m p t 0 = wac K h p t t (srch K h (gE m) t) none := rfl
      have go : ∀ (least : Int64) (found : Int32) (b : Bool), (ws K h m p t 0).1 = b → (b = false → WM least found (ws K h m p t 0).2) → ∃ τ1, fX6_wait_93 N (J (m : Int)) kept least found (bz b) τ3 = some (wres (ws K h m p t (kW K)), τ1) ∧ τ1 0 13 = kept ∧ MdOv τ1 K (ovf h) ∧ (∀ k, k ≠ 0 → k ≠ 8 → k ≠ 9 → k ≠ 10 → k ≠ 15 → τ1 k = τ k) ∧ ∀ i, i ≠ 13 → i ≠ 16 → i ≠ 17 → i ≠ 18 → τ1 0 i = τ 0 i := by
        intro least found b hb hw
        obtain ⟨τ1, f1, f2, f3, f4⟩ := wait98 (τ := τ2) (kept := kept) hN hK hH hm ht hp hl hR2 hA2 g10 g11 g15 (kW K) 0 N τ3 least found (by omega) (by omega) v3 v2 (by rw [hb]; exact hw)
        rw [hb] at f1
        refine ⟨τ1, f1, f2, f3, fun k a b c d e => ?_, fun i a b c d => ?_⟩
        · rw [f4.1 k a b c d, hk k e]
        · rw [f4.2 i a b c d, hk 0 (by omega)]
      rw [lp_succ, fX6_wait_29, hR2.2.1, if_pos ((J_le (by omega) (by omega) (by omega) (by omega)).mpr (by omega)), g10, v1, call_s]
      unfold wac at e0
      generalize srch K h (gE m) t = A at e0 ⊢
      rw [e0] at go
      cases hsp : A.2.1 with
      | true =>
        rw [hsp] at go
        rw [cVa_spent hsp, if_neg (show ¬ lg_cmp (LL (-5)) (-1) = 0 by decide), fX6_wait_78, if_pos (show lg_cmp (LL (-5)) (-5) = 0 by decide)]
        exact go _ _ true rfl (fun z => by cases z)
      | false =>
        rw [hsp] at go
        cases hbo : bestOf (mvs K h) A.2.2 with
        | none =>
          rw [hbo] at go
          rw [cVa_none hsp hbo, if_pos (show lg_cmp (LL (-1)) (-1) = 0 by decide), fX6_wait_78, if_neg (show ¬ lg_cmp (LL (-1)) (-5) = 0 by decide)]
          exact go _ _ false rfl (fun _ => rfl)
        | some b =>
          rw [hbo] at go
          have hbd := wC_bd (h := h) (b := b) hK hT hp
          rw [cVa_some hsp hbo]
          have go' := go (LL ((t - t) * p + cst K h b (kW K))) (J (t - t)) false rfl (fun _ => ⟨rfl, rfl⟩)
          rw [Int.sub_self] at go' hbd ⊢
          have h0p : 0 * p = 0 := Int.zero_mul p
          generalize hCe : 0 * p + cst K h b (kW K) = C at go' ⊢
          have hC : 0 ≤ C ∧ C < 4611686018427387904 := by omega
          have n5 := LL_eq (a := C) (b := -5) (by omega) (by omega) (by omega) (by omega)
          have n1 := LL_eq (a := C) (b := -1) (by omega) (by omega) (by omega) (by omega)
          rw [if_neg (fun z => by have := n1.mp ((lg_cmp_eq _ _).mp z); omega), fX6_wait_78, if_neg (fun z => by have := n5.mp ((lg_cmp_eq _ _).mp z); omega)]
          exact go'
    | succ d ih =>
      intro j n τ2 hj hn hk h15
      obtain ⟨n, rfl⟩ : ∃ n', n = n' + 1 := ⟨n - 1, by omega⟩
      rw [lp_succ, fX6_wait_29, hk 0 (by omega), hR.2.1, if_neg (fun q => by have := (J_le (by omega) (by omega) (by omega) (by omega)).mp q; omega), ck_J (by omega) (by omega) (by omega), ck_J (by omega) (by omega) (by omega), sg, J_nn (by omega), hk 8 (by omega), hO j (by omega), J1, J_add]
      refine ih (j + 1) n _ (by omega) (by omega) (fun k hk2 => by rw [stp_n hk2, hk k hk2]) (fun w hw => ?_)
      by_cases c : w = j
      · subst c
        rw [stp_s, upd_s]
        cases ovf h w <;> decide
      · rw [stp_s, upd_n c]; exact h15 w (by omega)
  exact key (kW K) 0 N τ (by omega) (by omega) (fun _ _ => rfl) (fun w hw => absurd hw (Nat.not_lt_zero _))
end WAIT98
theorem S_wait_ok {N : Nat} (hN : 1000000 ≤ N) : S_wait N Rel := by
  rintro n0 a0 σ τ hk ⟨K, h, t, pl, π, q⟩
  obtain ⟨q1, q2, q3, q4, q5, q6, q7, ⟨t1, t2, t3, t4, t5⟩, ⟨p1, p2, p3, p4, p5⟩, q10⟩ := id q
  have hM := q1.1
  obtain ⟨x, rfl, hx⟩ := J_ex a0
  rw [fX5_wait, fX6_wait, hasMachine_spec N q1 q3 hx, cali_s, isMachine_spec N q1 q5 hx, cali_s]
  rcases bz_split (lo := 0) (x := x) (hi := (kM K : Int) - 1) with e | ⟨e, e1, e2⟩
  · rw [e, if_pos bz_f, if_pos bz_f]
    exact ⟨-2, σ, τ, rfl, rfl, K, h, t, pl, π, q.up⟩
  · obtain ⟨m, rfl⟩ : ∃ m : Nat, x = (m : Int) := ⟨x.toNat, by omega⟩
    have hm : m < kM K := by omega
    have hc := cn_bd h m
    have c0 : J (cn h m) = (0 : Int32) ↔ cn h m = 0 := J_eq (a := cn h m) (b := 0) (by omega) (by omega) (by omega) (by omega)
    rw [e, if_neg (show ¬ bz true = (0 : Int32) by decide), if_neg (show ¬ bz true = (0 : Int32) by decide), ck_J (by omega) (by omega) (by omega), J_nn (by omega), (q4.2.1 m (by omega)).2.2.1, many_spec (by omega) q1 q2.1 q5 q6 q7 (by omega), cali_s]
    by_cases c : cn h m = 0
    · rw [if_pos (c0.mpr c), if_pos (c0.mpr c)]
      exact ⟨-3, σ, τ, rfl, rfl, K, h, t, pl, π, q.up⟩
    · obtain ⟨r1, p, rp, rb⟩ := id p1
      have g11 : τ 0 11 = J p := by rw [← r1]; exact rp
      rw [if_neg (fun z => c (c0.mp z)), if_neg (fun z => c (c0.mp z)), t1, rp]
      obtain ⟨σ1, a1, a2⟩ := least_spec (σ := σ) (N := N) (by omega) q1 q2 hm ⟨t3, by omega⟩ rb t5 q3 q4
      obtain ⟨τ1, b1, b2, b3, b4, b5⟩ := wait29 (τ := τ) (kept := τ 0 13) hN q1 q2 hm ⟨t3, by omega⟩ rb t5 q5 q6 q7 t2 g11
      rw [a1, cali_s, b1]
      have s0 : ∀ x, x < 19 → σ1 x = σ x := fun x hx => a2 x (by omega) (by omega)
      refine ⟨_, σ1, τ1, rfl, rfl, K, h, t, pl, π, q1, q2, q3.keep (fun x _ _ => s0 x (by omega)), q4.keep (fun x _ _ => s0 x (by omega)), q5.keep (b5 0 (by omega) (by omega) (by omega) (by omega)) (b5 3 (by omega) (by omega) (by omega) (by omega)) (fun x _ _ => b4 x (by omega) (by omega) (by omega) (by omega) (by omega)), b3, fun w z hw hz => by rw [b4 7 (by omega) (by omega) (by omega) (by omega) (by omega)]; exact q7 w z hw hz, ⟨by rw [s0 0 (by omega)]; exact t1, by rw [b5 10 (by omega) (by omega) (by omega) (by omega)]; exact t2, t3, by omega, t5⟩, ⟨by rw [s0 0 (by omega), b5 11 (by omega) (by omega) (by omega) (by omega)]; exact p1, by rw [s0 0 (by omega), b5 12 (by omega) (by omega) (by omega) (by omega)]; exact p2, by rw [s0 0 (by omega), b2]; exact p3, by rw [s0 0 (by omega)]; exact p4, by rw [b5 21 (by omega) (by omega) (by omega) (by omega)]; exact p5⟩, fun z => ?_⟩
      obtain ⟨z1, z2, z3⟩ := q10 z
      exact ⟨z1, fun w hw => by rw [a2 40 (by omega) (by omega)]; exact z2 w hw, fun w hw => by rw [b4 11 (by omega) (by omega) (by omega) (by omega) (by omega)]; exact z3 w hw⟩
