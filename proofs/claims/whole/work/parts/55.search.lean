/-! THE SEARCH: who lives in it, what a try is, all rows in order -/
abbrev Gl : Type := Nat × Nat × Int × Int
def gOK (K : Kt) (g : Gl) (ρ : Ro) : Bool := match g.1 with
  | 0 => cn ρ g.2.1 == 0
  | 1 => decide (g.2.2.1 ≤ kRA K g.2.1 - uA K ρ g.2.1) && decide (g.2.2.2 ≤ kRB K g.2.1 - uB K ρ g.2.1)
  | 2 => decide (oc ρ ≤ g.2.2.1)
  | _ => true
def GlOk (K : Kt) (g : Gl) : Prop := g.1 ≤ 3 ∧ (g.1 = 0 ∨ g.1 = 1 → g.2.1 < kM K) ∧ (g.1 = 1 → 0 ≤ g.2.2.1 ∧ g.2.2.1 ≤ 1000 ∧ 0 ≤ g.2.2.2 ∧ g.2.2.2 ≤ 1000) ∧ (g.1 = 2 → 1 ≤ g.2.2.1 ∧ g.2.2.1 ≤ 5)
def okT (K : Kt) (h : Ro) (g : Gl) (ρ : Ro) (w m : Nat) : Bool := !(kd K w == 3 && h w != some m) && tk K ρ w m (kA K w) (kB K w) (kd K w) (kg K w) (blk K w) && gOK K g (rset ρ w (some m))
abbrev Ac : Type := Nat × Bool × List Ro
def stepM (ok : Nat → Bool) (f : Nat → Ac → Ac) (a : Ac) (m : Nat) : Ac := if a.2.1 then a else if ok m then (if a.1 = 200000 then (a.1, true, a.2.2) else f m (a.1 + 1, false, a.2.2)) else a
def fm (f : Ac → Nat → Ac) : Nat → Nat → Ac → Ac
  | 0, _, a => a
  | d + 1, j, a => fm f d (j + 1) (f a j)
def dfs (K : Kt) (h : Ro) (g : Gl) : List Nat → Ro → Ac → Ac
  | [], ρ, a => (a.1, a.2.1, a.2.2 ++ [ρ])
  | w :: ws, ρ, a => fm (stepM (fun m => okT K h g ρ w m) (fun m a => dfs K h g ws (rset ρ w (some m)) a)) (kM K) 0 a
def lvl (lv : Nat → Bool) : Nat → Nat → List Nat
  | 0, _ => []
  | d + 1, f => if lv f then f :: lvl lv d (f + 1) else lvl lv d (f + 1)
theorem fm_spent {ok : Nat → Bool} {f : Nat → Ac → Ac} : ∀ (d j : Nat) (a : Ac), a.2.1 = true → fm (stepM ok f) d j a = a := by
  intro d
  induction d with
  | zero => intro j a h; rfl
  | succ d ih =>
    intro j a h
    show fm _ d (j + 1) (stepM ok f a j) = a
    have : stepM ok f a j = a := by unfold stepM; rw [if_pos h]
    rw [this]
    exact ih _ _ h
theorem lvl_next (lv : Nat → Bool) : ∀ (d f : Nat), lvl lv d f = if lfr lv d f < f + d then lfr lv d f :: lvl lv (f + d - (lfr lv d f + 1)) (lfr lv d f + 1) else [] := by
  intro d
  induction d with
  | zero => intro f; simp [lvl, lfr]
  | succ d ih =>
    intro f
    by_cases h : lv f = true
    · have e1 : lvl lv (d + 1) f = f :: lvl lv d (f + 1) := by simp [lvl, h]
      have e2 : lfr lv (d + 1) f = f := by simp [lfr, h]
      rw [e1, e2, if_pos (by omega), show f + (d + 1) - (f + 1) = d by omega]
    · have e1 : lvl lv (d + 1) f = lvl lv d (f + 1) := by simp [lvl, h]
      have e2 : lfr lv (d + 1) f = lfr lv d (f + 1) := by simp [lfr, h]
      rw [e1, e2, ih (f + 1), show f + 1 + d = f + (d + 1) by omega]
def pick (wt : Ro → Int) (o : Option Ro) (ρ : Ro) : Option Ro := match o with
  | none => some ρ
  | some b => if wt ρ < wt b then some ρ else some b
def bestOf (wt : Ro → Int) (l : List Ro) : Option Ro := l.foldl (pick wt) none
theorem bestOf_app {wt : Ro → Int} {l : List Ro} {ρ : Ro} : bestOf wt (l ++ [ρ]) = pick wt (bestOf wt l) ρ := by
  unfold bestOf
  rw [List.foldl_append]
  rfl
def mvs (K : Kt) (h ρ : Ro) : Int := sm 8 (fun w => if mvd K h ρ w then 1 else 0)
theorem mvs_bd {K : Kt} {h ρ : Ro} : 0 ≤ mvs K h ρ ∧ mvs K h ρ ≤ 8 := by
  have := sm_bd (n := 8) (f := fun w => if mvd K h ρ w then 1 else 0) (c := 1) (fun w _ => by cases mvd K h ρ w <;> decide)
  exact this
def wv (wt : Ro → Int) (o : Option Ro) : Int32 := match o with
  | none => J (-1)
  | some b => J (wt b)
/-- what the class has found so far -/
def AcC (σ : SS) (K : Kt) (h : Ro) (a : Ac) : Prop := σ 19 4 = J (a.1 : Int) ∧ σ 19 5 = bz a.2.1 ∧ a.1 ≤ 200000 ∧ σ 19 6 = wv (mvs K h) (bestOf (mvs K h) a.2.2) ∧ σ 19 7 = wv oc (bestOf oc a.2.2) ∧ (∀ b, bestOf (mvs K h) a.2.2 = some b → RowAt σ 20 b)
def GlRep (σ : SS) (g : Gl) (t : Int) : Prop := σ 19 8 = J (g.1 : Int) ∧ (g.1 = 0 ∨ g.1 = 1 → σ 19 9 = J (g.2.1 : Int)) ∧ (g.1 = 1 ∨ g.1 = 2 → σ 19 10 = J g.2.2.1) ∧ (g.1 = 1 → σ 19 11 = J g.2.2.2) ∧ σ 19 12 = J t
def lvC (K : Kt) (h : Ro) (t : Int) (w : Nat) : Bool := (h w).isSome && !(kd K w == 4 && decide (kg K w ≤ t))
theorem goalHolds_spec {σ : SS} {K : Kt} {ρ : Ro} {g : Gl} {t : Int} (N : Nat) (hK : KOk K) (hS : StRep σ K) (hR : RowRep σ 21 K ρ) (hρ : RoOk K ρ) (hg : GlOk K g) (hG : GlRep σ g t) : fX2_goalHolds N σ = some (bz (gOK K g ρ), σ) := by
  have hM := hK.1
  obtain ⟨g0, gm, ga, gb⟩ := g
  obtain ⟨q1, q2, q3, q4⟩ := hg
  obtain ⟨e1, e2, e3, e4, e5⟩ := hG
  dsimp only at q1 q2 q3 q4 e1 e2 e3 e4 e5
  unfold fX2_goalHolds fX2_goalHolds_52 fX2_goalHolds_93 fX2_goalHolds_94 fX2_goalHolds_114
  have hc : g0 = 0 ∨ g0 = 1 ∨ g0 = 2 ∨ g0 = 3 := by omega
  rcases hc with rfl | rfl | rfl | rfl
  · have hm := q2 (Or.inl rfl)
    have hcn := cn_bd ρ gm
    rw [e1, if_pos (show J ((0 : Nat) : Int) = 0 from rfl), e2 (Or.inl rfl)]
    simp (disch := omega) only [ck_J, J_nn, (hR.2.1 gm (by omega)).2.2.1, zk0, zk1, J0, J_eq]
    show _ = some (bz (cn ρ gm == 0), σ)
    by_cases c : cn ρ gm = 0
    · rw [if_pos c, c]; rfl
    · rw [if_neg c]
      have : (cn ρ gm == 0) = false := by simp [c]
      rw [this]; rfl
  · have hm := q2 (Or.inr rfl)
    have hA := uA_bd hK hρ gm
    have hB := uB_bd hK hρ gm
    have hr := hK.2.2.1 gm hm
    obtain ⟨b1, b2, b3, b4⟩ := q3 rfl
    rw [e1, if_neg (by decide), if_pos (show J ((1 : Nat) : Int) = 1 from rfl)]
    simp (disch := omega) only [e2 (Or.inr rfl), e3 (Or.inl rfl), e4 rfl, freeA_spec N hK hS hR hm, freeB_spec N hK hS hR hm, cali_s, J_lt, zk0, zk1]
    show _ = some (bz (decide (ga ≤ kRA K gm - uA K ρ gm) && decide (gb ≤ kRB K gm - uB K ρ gm)), σ)
    by_cases c1 : kRA K gm - uA K ρ gm < ga
    · rw [if_pos c1, decide_eq_false (by omega)]; rfl
    · rw [if_neg c1, decide_eq_true (by omega : ga ≤ kRA K gm - uA K ρ gm)]
      by_cases c2 : kRB K gm - uB K ρ gm < gb
      · rw [if_pos c2, decide_eq_false (by omega)]; rfl
      · rw [if_neg c2, decide_eq_true (by omega : gb ≤ kRB K gm - uB K ρ gm)]; rfl
  · have hoc := oc_bd ρ
    have := q4 rfl
    rw [e1, if_neg (by decide), if_neg (by decide), if_pos (show J ((2 : Nat) : Int) = 2 from rfl), e3 (Or.inr rfl), hR.2.2]
    simp (disch := omega) only [J_lt, zk0, zk1]
    show _ = some (bz (decide (oc ρ ≤ ga)), σ)
    by_cases c : ga < oc ρ
    · rw [if_pos c, decide_eq_false (by omega)]; rfl
    · rw [if_neg c, decide_eq_true (by omega : oc ρ ≤ ga)]; rfl
  · rw [e1, if_neg (by decide), if_neg (by decide), if_neg (by decide)]
    rfl
theorem endsBy_spec {σ : SS} {K : Kt} {w : Nat} {t : Int} (N : Nat) (hK : KOk K) (hS : StRep σ K) (hw : w < kW K) (ht : -2147483648 ≤ t ∧ t < 2147483648) : fX3_endsBy N (J w) (J t) σ = some (bz (kd K w == 4 && decide (kg K w ≤ t)), σ) := by
  have hW := hK.2.1
  obtain ⟨-, -, h6, -, -, -, h9, -⟩ := hS.2.2.2.1 w hw
  have hk := hK.2.2.2 w hw
  unfold fX3_endsBy fX3_endsBy_24 fX3_endsBy_25
  simp (disch := omega) only [ck_J, J_nn, h6, J4, J_eq, zk0, zk1]
  by_cases c : kd K w = 4
  · rw [if_pos (by omega), h9 c]
    simp (disch := omega) only [J_lt]
    by_cases c2 : t < kg K w
    · rw [if_pos c2, decide_eq_false (by omega)]
      simp [bz]
    · rw [if_neg c2, decide_eq_true (by omega : kg K w ≤ t)]
      simp [bz, c]
  · rw [if_neg (by omega)]
    have : (kd K w == 4) = false := by simp [c]
    rw [this]; rfl
theorem nextWork_spec {σ : SS} {K : Kt} {h : Ro} {g : Gl} {t : Int} {f : Nat} {N : Nat} (hN : 10 ≤ N) (hK : KOk K) (hS : StRep σ K) (hH : RowRep σ 13 K h) (hh : RoOk K h) (hG : GlRep σ g t) (ht : -2147483648 ≤ t ∧ t < 2147483648) (hf : f ≤ kW K) : fX2_nextWork N (J f) σ = some (J (lfr (lvC K h t) (kW K - f) f : Nat), σ) := by
  have hW := hK.2.1
  have hM := hK.1
  have key : ∀ (d j n : Nat), j + d = kW K → d < n → lp (fX2_nextWork_2 N) (fun _ _ => none) n (J j) σ = some (J (lfr (lvC K h t) d j : Nat), σ) := by
    intro d
    induction d with
    | zero =>
      intro j n hj hn
      obtain ⟨n, rfl⟩ : ∃ n', n = n' + 1 := ⟨n - 1, by omega⟩
      rw [lp_succ, fX2_nextWork_2, hS.2.1, if_pos (by rw [J_le (by omega) (by omega) (by omega) (by omega)]; omega), fX2_nextWork_47]
      rfl
    | succ d ih =>
      intro j n hj hn
      obtain ⟨n, rfl⟩ : ∃ n', n = n' + 1 := ⟨n - 1, by omega⟩
      have hjW : j < kW K := by omega
      rw [lp_succ, fX2_nextWork_2, hS.2.1, if_neg (by rw [J_le (by omega) (by omega) (by omega) (by omega)]; omega), ck_J (by omega) (by omega) (by omega), J_nn (by omega), hH.1 j (by omega), Jm1]
      have hb : ∀ m, h j = some m → m < 2147483647 := fun m q => by have := (hh j m q).2; omega
      unfold lfr
      by_cases c : h j = none
      · rw [if_pos ((rv_none hb).mpr c), fX2_nextWork_41, J1, J_add]
        have : lvC K h t j = false := by simp [lvC, c]
        rw [this, if_neg (by decide)]
        exact ih (j + 1) n (by omega) (by omega)
      · rw [if_neg (fun q => c ((rv_none hb).mp q)), hG.2.2.2.2, endsBy_spec N hK hS hjW ht, cali_s]
        have hs : (h j).isSome = true := by cases q : h j with | none => exact absurd q c | some x => rfl
        cases ce : (kd K j == 4 && decide (kg K j ≤ t)) with
        | false =>
          have : lvC K h t j = true := by simp only [lvC, hs, ce]; rfl
          rw [if_pos bz_f, this, if_pos rfl, fX2_nextWork_47]
        | true =>
          have : lvC K h t j = false := by simp only [lvC, hs, ce]; rfl
          rw [if_neg (by decide), this, if_neg (by decide), fX2_nextWork_41, J1, J_add]
          exact ih (j + 1) n (by omega) (by omega)
  exact key (kW K - f) f N (by omega) (by omega)
theorem wv_pick {wt : Ro → Int} {o : Option Ro} (hb : ∀ b, o = some b → 0 ≤ wt b ∧ wt b ≤ 100) : wv wt o = J (-1) ↔ o = none := by
  cases o with
  | none => simp [wv]
  | some b =>
    have := hb b rfl
    simp only [wv, reduceCtorEq, iff_false]
    rw [J_eq (by omega) (by omega) (by omega) (by omega)]
    omega
