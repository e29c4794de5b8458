def KeepM (τ τ1 : SS) : Prop := (∀ k, k ≠ 0 → k ≠ 9 → k ≠ 10 → τ1 k = τ k) ∧ ∀ i, i ≠ 13 → i ≠ 16 → τ1 0 i = τ 0 i
theorem KeepM.rfl {τ : SS} : KeepM τ τ := ⟨fun _ _ _ _ => Eq.refl _, fun _ _ _ => Eq.refl _⟩
theorem KeepM.trans {τ τ1 τ2 : SS} (h : KeepM τ τ1) (h1 : KeepM τ1 τ2) : KeepM τ τ2 := ⟨fun k a b c => (h1.1 k a b c).trans (h.1 k a b c), fun i a b => (h1.2 i a b).trans (h.2 i a b)⟩
def GI (τ : SS) (K : Kt) (o : Nat → Bool) (h : Ro) (g : Gl) (a : Ac) (ρ : Ro) : Prop := MdRep τ K ∧ MdOv τ K o ∧ MdAt τ K 7 h ∧ GlM τ g ∧ AcM τ K h g a ∧ RwM τ ρ
theorem GI.keep {τ τ1 : SS} {K : Kt} {o : Nat → Bool} {h : Ro} {g : Gl} {a a1 : Ac} {ρ ρ1 : Ro} (q : GI τ K o h g a ρ) (k : KeepM τ τ1) (ha : AcM τ1 K h g a1) (hr : RwM τ1 ρ1) : GI τ1 K o h g a1 ρ1 := by
  obtain ⟨q1, q2, q3, q4, -, -⟩ := q
  refine ⟨q1.keep (k.2 0 (by omega) (by omega)) (k.2 3 (by omega) (by omega)) (fun x _ _ => k.1 x (by omega) (by omega) (by omega)), fun w hw => ?_, fun w m hw hm => ?_, ?_, ha, hr⟩
  · rw [k.1 8 (by omega) (by omega) (by omega)]; exact q2 w hw
  · rw [k.1 7 (by omega) (by omega) (by omega)]; exact q3 w m hw hm
  · unfold GlM at q4 ⊢
    rw [k.2 17 (by omega) (by omega), k.2 18 (by omega) (by omega), k.2 19 (by omega) (by omega), k.2 20 (by omega) (by omega)]
    exact q4
theorem pv_skip {o : Nat → Bool} {w : Nat} (hw : o w = false) : ∀ (w1 : Nat), w < w1 → (∀ v, w < v → v < w1 → o v = true) → pv o w1 = (w : Int) := by
  intro w1
  induction w1 with
  | zero => intro h; exact absurd h (by omega)
  | succ w1 ih =>
    intro h hv
    unfold pv
    by_cases e : w1 = w
    · subst e
      rw [hw, if_neg (by decide)]
    · rw [hv w1 (by omega) (by omega), if_pos rfl]
      exact ih (by omega) (fun v h1 h2 => hv v h1 (by omega))
def KB : Nat → Nat
  | 0 => 0
  | e + 1 => 5 * (KB e + 2)
theorem KB_mono {a b : Nat} (h : a ≤ b) : KB a ≤ KB b := by
  induction b with
  | zero => have : a = 0 := by omega
            subst this; exact Nat.le_refl _
  | succ b ih =>
    by_cases e : a = b + 1
    · subst e; exact Nat.le_refl _
    · have := ih (by omega)
      show KB a ≤ 5 * (KB b + 2)
      omega
def lvM (o : Nat → Bool) (v : Nat) : Bool := !(o v)
/-- the reference's loop, at a work, from a machine on: it is the search -/
def GoOk (N : Nat) (K : Kt) (o : Nat → Bool) (h : Ro) (g : Gl) (w e d c : Nat) : Prop := ∀ (ρ : Ro) (τ : SS) (a : Ac), PR K h g o ρ w → GI τ K o h g a ρ → a.2.1 = false → ∃ (k : Nat) (τ1 : SS), k ≤ d * (KB e + 2) ∧ GI τ1 K o h g (fm (stepM (fun m => okT K h g ρ w m) (fun m a => dfs K h g (lvl (lvM o) e (w + 1)) (rset ρ w (some m)) a)) d c a) ρ ∧ KeepM τ τ1 ∧ ((fm (stepM (fun m => okT K h g ρ w m) (fun m a => dfs K h g (lvl (lvM o) e (w + 1)) (rset ρ w (some m)) a)) d c a).2.1 = false → ∀ n n2, d < n2 → lp (fX6_go_42 N (lp (fX6_go_29 N) (fun _ _ => none) (n + k))) (fun _ _ _ => none) n2 (J w) (J c) τ = lp (fX6_go_29 N) (fun _ _ => none) n (J (pv o w)) τ1) ∧ ((fm (stepM (fun m => okT K h g ρ w m) (fun m a => dfs K h g (lvl (lvM o) e (w + 1)) (rset ρ w (some m)) a)) d c a).2.1 = true → ∀ n n2, d < n2 → lp (fX6_go_42 N (lp (fX6_go_29 N) (fun _ _ => none) (n + k))) (fun _ _ _ => none) n2 (J w) (J c) τ = some (0, τ1))
theorem go29 {τ : SS} {w c : Nat} {N n : Nat} (hw : w < 8) (h : τ 9 w = J ((c : Int) - 1)) : lp (fX6_go_29 N) (fun _ _ => none) (n + 1) (J w) τ = lp (fX6_go_42 N (lp (fX6_go_29 N) (fun _ _ => none) n)) (fun _ _ _ => none) N (J w) (J c) τ := by
  rw [lp_succ, fX6_go_29, J0, if_neg (fun q => by have := (J_lt (by omega) (by omega) (by omega) (by omega)).mp q; omega), ck_J (by omega) (by omega) (by omega), J_nn (by omega), h, J1, J_add]
  rw [show (c : Int) - 1 + 1 = (c : Int) by omega]
theorem go_spec {K : Kt} {o : Nat → Bool} {h : Ro} {g : Gl} {N : Nat} (hN : 20 ≤ N) (hK : KOk K) (ho : OvOk K o) (hhM : RoOk K h) (hhl : ∀ v, v < kW K → o v = false → (h v).isSome = true) (hg : GlOk K g) : ∀ (e w : Nat), w + 1 + e = kW K → o w = false → ∀ (d c : Nat), c + d = kM K → GoOk N K o h g w e d c := by
  have hM := hK.1
  have hW := hK.2.1
  intro e
  induction e using Nat.strongRecOn with
  | ind e ihe =>
    intro w hwe how d
    induction d with
    | zero =>
      intro c hc ρ τ a hp hI ha
      have hcM : c = kM K := by omega
      refine ⟨0, τ, Nat.zero_le _, hI, KeepM.rfl, fun _ n n2 hn2 => ?_, fun q => ?_⟩
      · obtain ⟨n2, rfl⟩ : ∃ n', n2 = n' + 1 := ⟨n2 - 1, by omega⟩
        rw [lp_succ, fX6_go_42, hI.1.1, if_pos ((J_le (by omega) (by omega) (by omega) (by omega)).mpr (by omega)), fX6_go_65, hI.1.1, if_pos (by rw [hcM]), next_dn hN hK hI.1 hI.2.1 (by omega), cali_s, fX6_go_142]
        rfl
      · rw [show fm (stepM (fun m => okT K h g ρ w m) (fun m a => dfs K h g (lvl (lvM o) e (w + 1)) (rset ρ w (some m)) a)) 0 c a = a from rfl, ha] at q
        cases q
    | succ d ihd =>
      intro c hc ρ τ a hp hI ha
      have hcM : c < kM K := by omega
      obtain ⟨i1, i2, i3, i4, i5, i6⟩ := id hI
      have hhw := hhl w (by omega) how
      have hno : ∀ v, w ≤ v → ρ v = none := fun v hv => by
        cases q : ρ v with
        | none => rfl
        | some x => have := ((hp.2.1 v).mp (by rw [q]; rfl)).1; omega
      have htry := isTry_spec (m := c) (N := N) (by omega) hK i1 i2 ho hp i6 (by omega) hhw hcM i3 hhM i4 hg
      have e1 : ∀ a0, fm (stepM (fun m => okT K h g ρ w m) (fun m a => dfs K h g (lvl (lvM o) e (w + 1)) (rset ρ w (some m)) a)) (d + 1) c a0 = fm (stepM (fun m => okT K h g ρ w m) (fun m a => dfs K h g (lvl (lvM o) e (w + 1)) (rset ρ w (some m)) a)) d (c + 1) (stepM (fun m => okT K h g ρ w m) (fun m a => dfs K h g (lvl (lvM o) e (w + 1)) (rset ρ w (some m)) a) a0 c) := fun _ => rfl
      have hbd : ∀ x, x ≤ d * (KB e + 2) → x + (KB e + 2) ≤ (d + 1) * (KB e + 2) := fun x hx => by rw [Nat.succ_mul]; omega
      rw [e1]
      have head : ∀ n n2, d + 1 < n2 → lp (fX6_go_42 N (lp (fX6_go_29 N) (fun _ _ => none) n)) (fun _ _ _ => none) n2 (J w) (J c) τ = if bz (okT K h g ρ w c) = 0 then lp (fX6_go_42 N (lp (fX6_go_29 N) (fun _ _ => none) n)) (fun _ _ _ => none) (n2 - 1) (J w) (J ((c + 1 : Nat) : Int)) τ else fX6_go_65 N (lp (fX6_go_29 N) (fun _ _ => none) n) (J w) (J c) τ := by
        intro n n2 hn2
        obtain ⟨n2, rfl⟩ : ∃ n', n2 = n' + 1 := ⟨n2 - 1, by omega⟩
        rw [lp_succ, fX6_go_42, hI.1.1, if_neg (fun q => by have := (J_le (by omega) (by omega) (by omega) (by omega)).mp q; omega), htry, cali_s, J1, J_add]
        rfl
      cases hok : okT K h g ρ w c with
      | false =>
        rw [stepM_no ha hok]
        obtain ⟨k, τ1, k1, k2, k3, k4, k5⟩ := ihd (c + 1) (by omega) ρ τ a hp hI ha
        refine ⟨k, τ1, by have := hbd k k1; omega, k2, k3, fun q n n2 hn2 => ?_, fun q n n2 hn2 => ?_⟩
        · rw [head _ _ hn2, hok, if_pos bz_f]
          exact k4 q n (n2 - 1) (by omega)
        · rw [head _ _ hn2, hok, if_pos bz_f]
          exact k5 q n (n2 - 1) (by omega)
      | true =>
        have hne : ¬ J (c : Int) = J (kM K : Int) := by rw [J_eq (by omega) (by omega) (by omega) (by omega)]; omega
        have e200 := J_eq (a := (a.1 : Int)) (b := 200000) (by have := i5.2.1; omega) (by have := i5.2.1; omega) (by omega) (by omega)
        generalize hτ1 : stp τ 9 (upd (τ 9) w (J c)) = τ1
        have k1 : KeepM τ τ1 := ⟨fun k a b c => by rw [← hτ1, stp_n b], fun i a b => by rw [← hτ1, stp_n (by omega)]⟩
        have r1 : RwM τ1 (rset ρ w (some c)) := by
          intro v m hv
          rw [← hτ1, stp_s]
          by_cases ev : v = w
          · subst ev; rw [rset_self] at hv; cases hv; rw [upd_s]
          · simp only [rset, if_neg ev] at hv; rw [upd_n ev]; exact i6 v m hv
        have r1' : RwM τ1 ρ := by
          intro v m hv
          have : v ≠ w := fun q => by rw [q, hno w (Nat.le_refl _)] at hv; cases hv
          exact r1 v m (by simp only [rset, if_neg this]; exact hv)
        have a1 : AcM τ1 K h g a := by
          unfold AcM at i5 ⊢
          rw [← hτ1, stp_n (by omega : (0 : Nat) ≠ 9), stp_n (by omega : (10 : Nat) ≠ 9)]
          exact i5
        have h65 : ∀ n, fX6_go_65 N (lp (fX6_go_29 N) (fun _ _ => none) n) (J w) (J c) τ = (if τ1 0 13 = 200000 then zk 0 (some (0, τ1)) else sg (stp τ1 0 (upd (τ1 0) 13 (τ1 0 13 + 1))) (fun s3 => cali (fX6_next N (J w) 1 s3) (fun v4 s4 => if s4 0 3 ≤ v4 then calv (fX6_take N s4) (fun s5 => fX6_go_142 N (lp (fX6_go_29 N) (fun _ _ => none) n) (J w) s5) else ck v4 8 (sg (stp s4 9 (upd (s4 9) (Int32.toNatClampNeg v4) (-1))) (fun s6 => fX6_go_142 N (lp (fX6_go_29 N) (fun _ _ => none) n) v4 s6))))) := by
          intro n
          rw [fX6_go_65, hI.1.1, if_neg hne, ck_J (by omega) (by omega) (by omega), J_nn (by omega), sg, hτ1]
        by_cases c2 : a.1 = 200000
        · -- spent
          rw [stepM_sp ha hok c2, fm_spent _ _ _ rfl]
          refine ⟨0, τ1, Nat.zero_le _, hI.keep k1 ⟨a1.1, a1.2.1, a1.2.2.1, a1.2.2.2⟩ r1', k1, fun q => (by cases q), fun _ n n2 hn2 => ?_⟩
          rw [head _ _ hn2, hok, if_neg (by decide), h65, a1.1, if_pos (by rw [J200000]; exact e200.mpr (by omega))]
          rfl
        · rw [stepM_go (f := fun m a => dfs K h g (lvl (lvM o) e (w + 1)) (rset ρ w (some m)) a) ha hok c2]
          have hlt : a.1 < 200000 := by have := i5.2.1; omega
          generalize hτ2 : stp τ1 0 (upd (τ1 0) 13 (τ1 0 13 + 1)) = τ2
          have k2 : KeepM τ τ2 := k1.trans ⟨fun k a b c => by rw [← hτ2, stp_n a], fun i a b => by rw [← hτ2, stp_s, upd_n a]⟩
          have r2 : RwM τ2 (rset ρ w (some c)) := fun v m hv => by rw [← hτ2, stp_n (by omega)]; exact r1 v m hv
          have a2 : AcM τ2 K h g (a.1 + 1, false, a.2.2) := by
            refine ⟨?_, ?_, ?_, ?_⟩
            · rw [← hτ2, stp_s, upd_s, a1.1, J1, J_add]; rfl
            · show a.1 + 1 ≤ 200000; omega
            · rw [← hτ2, stp_s, upd_n (by omega)]; exact a1.2.2.1
            · intro b hb v m hv; rw [← hτ2, stp_n (by omega)]; exact a1.2.2.2 b hb v m hv
          have hI2 : GI τ2 K o h g (a.1 + 1, false, a.2.2) (rset ρ w (some c)) := hI.keep k2 a2 r2
          have hp2 := PR_set hK ho hp (by omega : w < kW K) how hcM hok
          have hnx := next_up (f := w + 1) hN hK hI2.1 hI2.2.1 (by omega) (J w) (by rw [J1, J_add]; rfl)
          have he : kW K - (w + 1) = e := by omega
          rw [he] at hnx
          have hl := lvl_next (lvM o) e (w + 1)
          have hle := lfr_le (lvM o) e (w + 1)
          have hbef := lfr_before (lvM o) e (w + 1)
          have ehnx : lfr (fun v => !(o v)) e (w + 1) = lfr (lvM o) e (w + 1) := rfl
          rw [ehnx] at hnx
          have h65b : ∀ n, fX6_go_65 N (lp (fX6_go_29 N) (fun _ _ => none) n) (J w) (J c) τ = (if J (kW K : Int) ≤ J (lfr (lvM o) e (w + 1) : Nat) then calv (fX6_take N τ2) (fun s5 => fX6_go_142 N (lp (fX6_go_29 N) (fun _ _ => none) n) (J w) s5) else ck (J (lfr (lvM o) e (w + 1) : Nat)) 8 (sg (stp τ2 9 (upd (τ2 9) (Int32.toNatClampNeg (J (lfr (lvM o) e (w + 1) : Nat))) (-1))) (fun s6 => fX6_go_142 N (lp (fX6_go_29 N) (fun _ _ => none) n) (J (lfr (lvM o) e (w + 1) : Nat)) s6))) := by
            intro n
            rw [h65, if_neg (by rw [a1.1, J200000]; exact fun q => c2 (by have := e200.mp q; omega)), sg, hτ2, hnx, cali_s, hI2.1.2.1]
          -- on with the next machine, from a state behind
          have onward : ∀ (τ3 : SS) (a3 : Ac), GI τ3 K o h g a3 (rset ρ w (some c)) → KeepM τ τ3 → a3.2.1 = false → ∃ (k : Nat) (τ4 : SS), k ≤ d * (KB e + 2) ∧ GI τ4 K o h g (fm (stepM (fun m => okT K h g ρ w m) (fun m a => dfs K h g (lvl (lvM o) e (w + 1)) (rset ρ w (some m)) a)) d (c + 1) a3) ρ ∧ KeepM τ τ4 ∧ ((fm (stepM (fun m => okT K h g ρ w m) (fun m a => dfs K h g (lvl (lvM o) e (w + 1)) (rset ρ w (some m)) a)) d (c + 1) a3).2.1 = false → ∀ n, lp (fX6_go_29 N) (fun _ _ => none) (n + k + 1) (J w) τ3 = lp (fX6_go_29 N) (fun _ _ => none) n (J (pv o w)) τ4) ∧ ((fm (stepM (fun m => okT K h g ρ w m) (fun m a => dfs K h g (lvl (lvM o) e (w + 1)) (rset ρ w (some m)) a)) d (c + 1) a3).2.1 = true → ∀ n, lp (fX6_go_29 N) (fun _ _ => none) (n + k + 1) (J w) τ3 = some (0, τ4)) := by
            intro τ3 a3 hI3 hk3 ha3
            have hI3' : GI τ3 K o h g a3 ρ := hI3.keep KeepM.rfl hI3.2.2.2.2.1 (fun v m hv => by
              have : v ≠ w := fun q => by rw [q, hno w (Nat.le_refl _)] at hv; cases hv
              exact hI3.2.2.2.2.2 v m (by simp only [rset, if_neg this]; exact hv))
            have h9 : τ3 9 w = J (((c + 1 : Nat) : Int) - 1) := by
              rw [hI3.2.2.2.2.2 w c rset_self]; congr 1; omega
            obtain ⟨k, τ4, m1, m2, m3, m4, m5⟩ := ihd (c + 1) (by omega) ρ τ3 a3 hp hI3' ha3
            refine ⟨k, τ4, m1, m2, hk3.trans m3, fun q n => ?_, fun q n => ?_⟩
            · rw [go29 (by omega) h9]
              exact m4 q n N (by omega)
            · rw [go29 (by omega) h9]
              exact m5 q n N (by omega)
          by_cases c3 : lfr (lvM o) e (w + 1) < w + 1 + e
          · -- down
            have hhit := lfr_hit (lvM o) e (w + 1) c3
            rw [if_pos c3] at hl
            generalize lfr (lvM o) e (w + 1) = w1 at hl hle hbef c3 hhit h65b
            have how1 : o w1 = false := by unfold lvM at hhit; simpa using hhit
            have hskip : ∀ v, w < v → v < w1 → o v = true := fun v h1 h2 => by
              have := hbef v (by omega) h2
              unfold lvM at this
              simpa using this
            have hpv := pv_skip how w1 (by omega) hskip
            have hew : w + 1 + e - (w1 + 1) = kW K - (w1 + 1) := by omega
            rw [hew] at hl
            generalize hτ3 : stp τ2 9 (upd (τ2 9) w1 (-1)) = τ3
            have k3 : KeepM τ τ3 := k2.trans ⟨fun k a b c => by rw [← hτ3, stp_n b], fun i a b => by rw [← hτ3, stp_n (by omega)]⟩
            have hI3 : GI τ3 K o h g (a.1 + 1, false, a.2.2) (rset ρ w (some c)) := by
              refine hI.keep k3 ?_ (fun v m hv => ?_)
              · unfold AcM at a2 ⊢
                rw [← hτ3, stp_n (by omega : (0 : Nat) ≠ 9), stp_n (by omega : (10 : Nat) ≠ 9)]
                exact a2
              · have hv1 : v ≠ w1 := fun q => by
                  have := ((hp2.2.1 v).mp (by rw [hv]; rfl)).1
                  omega
                rw [← hτ3, stp_s, upd_n hv1]; exact r2 v m hv
            have hp3 := PR_skip (w1 := w1) hp2 (by omega) (fun v h1 h2 _ => hskip v (by omega) h2)
            obtain ⟨kk, τ4, m1, m2, m3, m4, m5⟩ := ihe (kW K - (w1 + 1)) (by omega) w1 (by omega) how1 (kM K) 0 (by omega) (rset ρ w (some c)) τ3 _ hp3 hI3 rfl
            have h9 : τ3 9 w1 = J (((0 : Nat) : Int) - 1) := by rw [← hτ3, stp_s, upd_s]; rfl
            have edfs : dfs K h g (lvl (lvM o) e (w + 1)) (rset ρ w (some c)) (a.1 + 1, false, a.2.2) = fm (stepM (fun m => okT K h g (rset ρ w (some c)) w1 m) (fun m a => dfs K h g (lvl (lvM o) (kW K - (w1 + 1)) (w1 + 1)) (rset (rset ρ w (some c)) w1 (some m)) a)) (kM K) 0 (a.1 + 1, false, a.2.2) := by rw [hl]; rfl
            have hkk : kk ≤ KB e := by
              have h1 : KB (kW K - (w1 + 1) + 1) ≤ KB e := KB_mono (by omega)
              have h2 : KB (kW K - (w1 + 1) + 1) = 5 * (KB (kW K - (w1 + 1)) + 2) := rfl
              have h3 : kM K * (KB (kW K - (w1 + 1)) + 2) ≤ 5 * (KB (kW K - (w1 + 1)) + 2) := Nat.mul_le_mul_right _ hM
              omega
            have first : ∀ n, fX6_go_65 N (lp (fX6_go_29 N) (fun _ _ => none) (n + 1)) (J w) (J c) τ = lp (fX6_go_42 N (lp (fX6_go_29 N) (fun _ _ => none) n)) (fun _ _ _ => none) N (J w1) (J ((0 : Nat) : Int)) τ3 := by
              intro n
              rw [h65b, if_neg (fun q => by have := (J_le (by omega) (by omega) (by omega) (by omega)).mp q; omega), ck_J (by omega) (by omega) (by omega), J_nn (by omega), sg, hτ3, fX6_go_142, go29 (by omega) h9]
            show ∃ k τ1, k ≤ (d + 1) * (KB e + 2) ∧ GI τ1 K o h g (fm _ d (c + 1) (dfs K h g (lvl (lvM o) e (w + 1)) (rset ρ w (some c)) (a.1 + 1, false, a.2.2))) ρ ∧ _
            rw [edfs]
            cases hsp : (fm (stepM (fun m => okT K h g (rset ρ w (some c)) w1 m) (fun m a => dfs K h g (lvl (lvM o) (kW K - (w1 + 1)) (w1 + 1)) (rset (rset ρ w (some c)) w1 (some m)) a)) (kM K) 0 (a.1 + 1, false, a.2.2)).2.1 with
            | true =>
              rw [fm_spent _ _ _ hsp]
              refine ⟨kk + 1, τ4, (by have := hbd 0 (Nat.zero_le _); omega), m2.keep KeepM.rfl m2.2.2.2.2.1 (fun v m hv => ?_), k3.trans m3, fun q => (by rw [hsp] at q; cases q), fun _ n n2 hn2 => ?_⟩
              · have : v ≠ w := fun q => by rw [q, hno w (Nat.le_refl _)] at hv; cases hv
                exact m2.2.2.2.2.2 v m (by simp only [rset, if_neg this]; exact hv)
              · rw [head _ _ hn2, hok, if_neg (by decide), show n + (kk + 1) = (n + kk) + 1 from rfl, first]
                exact m5 hsp n N (by omega)
            | false =>
              obtain ⟨k5, τ5, p1, p2, p3, p4, p5⟩ := onward τ4 _ m2 (k3.trans m3) hsp
              refine ⟨k5 + 1 + kk + 1, τ5, by have := hbd k5 p1; omega, p2, p3, fun q n n2 hn2 => ?_, fun q n n2 hn2 => ?_⟩
              · rw [head _ _ hn2, hok, if_neg (by decide), show n + (k5 + 1 + kk + 1) = ((n + k5 + 1) + kk) + 1 from by omega, first, m4 hsp (n + k5 + 1) N (by omega), hpv]
                exact p4 q n
              · rw [head _ _ hn2, hok, if_neg (by decide), show n + (k5 + 1 + kk + 1) = ((n + k5 + 1) + kk) + 1 from by omega, first, m4 hsp (n + k5 + 1) N (by omega), hpv]
                exact p5 q n
          · -- a whole row
            rw [if_neg c3] at hl
            have hF : Full K o (rset ρ w (some c)) := by
              refine ⟨hp2.1, fun v => ?_⟩
              rw [hp2.2.1 v]
              constructor
              · intro q; exact q.2
              · intro q
                refine ⟨?_, q⟩
                by_cases z : v < w + 1
                · exact z
                · have := hbef v (by omega) (by omega)
                  unfold lvM at this
                  rw [q.2] at this
                  cases this
            obtain ⟨τ3, t1, t2, t3, t4⟩ := take_spec (N := N) (by omega) hK hI2.1 hI2.2.1 ho hF r2 hI2.2.2.1 hhM hhl hI2.2.2.2.1 hg a2
            have k3 : KeepM τ τ3 := k2.trans ⟨fun k a _ c => t4 k a c, fun i _ b => t3 i b⟩
            have hI3 := hI.keep k3 t2 (fun v m hv => by rw [t4 9 (by omega) (by omega)]; exact r2 v m hv)
            have edfs : dfs K h g (lvl (lvM o) e (w + 1)) (rset ρ w (some c)) (a.1 + 1, false, a.2.2) = (a.1 + 1, false, a.2.2 ++ [rset ρ w (some c)]) := by rw [hl]; rfl
            show ∃ k τ1, k ≤ (d + 1) * (KB e + 2) ∧ GI τ1 K o h g (fm _ d (c + 1) (dfs K h g (lvl (lvM o) e (w + 1)) (rset ρ w (some c)) (a.1 + 1, false, a.2.2))) ρ ∧ _
            rw [edfs]
            obtain ⟨k5, τ5, p1, p2, p3, p4, p5⟩ := onward τ3 _ hI3 k3 rfl
            have first : ∀ n, fX6_go_65 N (lp (fX6_go_29 N) (fun _ _ => none) n) (J w) (J c) τ = lp (fX6_go_29 N) (fun _ _ => none) n (J w) τ3 := by
              intro n
              rw [h65b, if_pos ((J_le (by omega) (by omega) (by omega) (by omega)).mpr (by omega)), t1, calv_s, fX6_go_142]
            refine ⟨k5 + 1, τ5, by have := hbd k5 p1; omega, p2, p3, fun q n n2 hn2 => ?_, fun q n n2 hn2 => ?_⟩
            · rw [head _ _ hn2, hok, if_neg (by decide), first]
              exact p4 q n
            · rw [head _ _ hn2, hok, if_neg (by decide), first]
              exact p5 q n
