/-! the class's walks against the picture -/
def fd_T (n : Nat → Nat) (p c : Nat) : Nat := fd_tk n p c 5
def fd_P (o : Nat → Bool) (p c : Nat) : Bool := fd_ip o p c 5
theorem fd_T_lt {n : Nat → Nat} (hn : ∀ i, n i ≤ 15) (p c : Nat) : fd_T n p c < 1000 := by
  have h : fd_T n p c ≤ 90 * 5 := fd_tk_le hn p c 5
  omega
theorem fd_bo_0 {T : Nat → Nat} {P : Nat → Bool} {k : Nat} (h : P k = false) : fd_bo T P (k + 1) = fd_bo T P k := by
  rw [fd_bo, if_neg (by rw [h]; decide)]
theorem fd_bo_1 {T : Nat → Nat} {P : Nat → Bool} {k : Nat} (h : P k = true) (hb : fd_bo T P k = none) : fd_bo T P (k + 1) = some k := by
  rw [fd_bo, if_pos h, hb]
theorem fd_bo_2 {T : Nat → Nat} {P : Nat → Bool} {k c : Nat} (h : P k = true) (hb : fd_bo T P k = some c) (ht : T k < T c) : fd_bo T P (k + 1) = some k := by
  rw [fd_bo, if_pos h, hb]
  exact if_pos ht
theorem fd_bo_3 {T : Nat → Nat} {P : Nat → Bool} {k c : Nat} (h : P k = true) (hb : fd_bo T P k = some c) (ht : ¬ T k < T c) : fd_bo T P (k + 1) = some c := by
  rw [fd_bo, if_pos h, hb]
  exact if_neg ht
theorem fd_nneg {c : Nat} (h : c < 2 ^ 31) : ¬ nI c = -1 := fun z => by
  have h2 := nI_pos' h
  rw [z] at h2
  exact absurd h2 (by decide)
theorem fd_ne {a b : Nat} (ha : a < 2 ^ 31) (hb : b < 2 ^ 31) (h : a ≠ b) : ¬ nI a = nI b := fun z => h ((nI_eq ha hb).mp z)
theorem fd_tic (n : Nat → Nat) {k : Nat} (h : k < 2 ^ 31) : fd_ti n (nI k).toNatClampNeg = nI (n k) := by
  rw [nI_clamp h]
  rfl

section
variable {fm fe fp : Int32} {n : Nat → Nat} {p : Nat}

theorem fd_xhas {post : Int32 → Prop} (x : Int32) {i : Nat} (hi : i < 32) (h : post (fd_b (bt x i))) : wpX_has post x (nI i) := by
  unfold wpX_has
  rw [fd_has x hi]
  cases hb : bt x i with
  | false => rw [hb] at h; exact br_t rfl h
  | true => rw [hb] at h; exact br_f (by decide) h
theorem fd_xhasN {post : Int32 → Prop} (p : Nat) {i : Nat} (hi : i < 32) (h : post (fd_b (p.testBit i))) : wpX_has post (nI p) (nI i) :=
  fd_xhas (nI p) hi (by rw [fd_btN p hi]; exact h)
theorem fd_xmi {post : Int32 → Prop} {x : Int32} {c j : Nat} (hx : fd_PV x c) (hj : j < 5) (h : post (nI (fd_dg c j))) : wpX_machineIn post x (nI j) := by
  unfold wpX_machineIn
  rw [hx j hj]
  exact h

theorem fd_xip45 {post J2 : Int32 → Prop} {x0 x1 x2 : Int32} {i : Nat} (b : Bool) (hf : b = false → post 0) (ht : b = true → J2 (nI (i + 1))) : wX_isPlan_45 post J2 x0 x1 x2 (nI i) (fd_b b) := by
  unfold wX_isPlan_45
  cases b with
  | false => exact br_t rfl (hf rfl)
  | true => exact br_f (by decide) (nm_r (nI_1 i) (ht rfl))
theorem fd_xipL {post : Int32 → Prop} {x mk : Int32} {c : Nat} {o : Nat → Bool} (hx : fd_PV x c) (hm : fd_MK mk o) (h : post (fd_b (fd_P o p c))) :
    ∀ d i, i + d = 5 → fd_ip o p c i = true → wX_isPlan_2 post x (nI p) mk (d + 1) (nI i) := by
  intro d
  induction d with
  | zero =>
    intro i hi hp
    have e : i = 5 := by omega
    subst e
    have h2 : fd_P o p c = true := hp
    rw [h2] at h
    exact br_t (by decide) h
  | succ d ih =>
    intro i hi hp
    have hi5 : i < 5 := by omega
    have hd := fd_dg_lt c i
    have key : wX_isPlan_45 post (wX_isPlan_2 post x (nI p) mk (d + 1)) x (nI p) mk (nI i) (fd_b (fd_ok o p c i)) := by
      apply fd_xip45
      · intro hb
        have e : fd_ip o p c (i + 1) = false := by
          show (fd_ip o p c i && fd_ok o p c i) = false
          rw [hb, Bool.and_false]
        have e5 := fd_ip_f e (5 - (i + 1))
        rw [show i + 1 + (5 - (i + 1)) = 5 by omega] at e5
        have h2 : fd_P o p c = false := e5
        rw [h2] at h
        exact h
      · intro hb
        refine ih (i + 1) (by omega) ?_
        show (fd_ip o p c i && fd_ok o p c i) = true
        rw [hp, hb]
        rfl
    refine br_f (lt5' i hi5) ?_
    refine fd_xmi hx hi5 ?_
    refine fd_xhasN p (by omega) ?_
    cases hb : p.testBit i with
    | false =>
      refine br_t rfl ?_
      have e : fd_ok o p c i = decide (fd_dg c i = 0) := by
        unfold fd_ok
        rw [hb]
        exact if_neg (by decide)
      by_cases h0 : fd_dg c i = 0
      · rw [e, decide_eq_true h0] at key
        exact br_t (by rw [h0]; exact nI_0) key
      · rw [e, decide_eq_false h0] at key
        exact br_f (nI_ne0 (by omega) (by omega)) key
    | true =>
      refine br_f (by decide) ?_
      have e : fd_ok o p c i = o (4 * i + fd_dg c i) := by
        unfold fd_ok
        rw [hb]
        exact if_pos rfl
      rw [fd_ixA]
      refine fd_xhas mk (by omega) ?_
      rw [hm _ (by omega), ← e]
      exact key
theorem fd_xip {post : Int32 → Prop} {x mk : Int32} {c : Nat} {o : Nat → Bool} (hx : fd_PV x c) (hm : fd_MK mk o) (h : post (fd_b (fd_P o p c))) : wpX_isPlan post x (nI p) mk :=
  ⟨5 + 1, fd_xipL hx hm h 5 0 rfl rfl⟩

theorem fd_xf98 {post : Int32 → Prop} {J27 : Int32 → Int32 → Prop} {x1 x2 x3 x4 x5 : Int32} {a : Nat → Int32} {s i t : Nat} (z : Bool) (hf : z = false → J27 (nI s) (nI (i + 1))) (ht : z = true → J27 (nI (s + t)) (nI (i + 1))) :
    wX_finishIn_98 post J27 x1 x2 x3 x4 x5 (nI s) (nI i) (nI t) (fd_b z) fm fe fp a := by
  unfold wX_finishIn_98
  cases z with
  | false => exact br_t rfl (nm_r (Int32.add_zero _) (nm_r (nI_1 i) (hf rfl)))
  | true => exact br_f (by decide) (nm_r (nI_add s t) (nm_r (nI_1 i) (ht rfl)))
theorem fd_xfinL {post : Int32 → Prop} {x : Int32} {c j : Nat} (hx : fd_PV x c) (hn : ∀ i, n i ≤ 15) (hj : j < 5) (h : post (nI (fd_fk n p c j 5))) :
    ∀ d i, i + d = 5 → wX_finishIn_27 post x (nI p) (nI j) (nI (fd_dg c j)) (nI (fd_tm n c j)) fm fe fp (fd_ti n) (d + 1) (nI (fd_fk n p c j i)) (nI i) := by
  intro d
  induction d with
  | zero =>
    intro i hi
    have e : i = 5 := by omega
    subst e
    exact br_t (by decide) h
  | succ d ih =>
    intro i hi
    have hi5 : i < 5 := by omega
    have hd1 := fd_dg_lt c i
    have hd2 := fd_dg_lt c j
    have ht1 : fd_tm n c i ≤ 15 := hn _
    have ht2 : fd_tm n c j ≤ 15 := hn _
    have k := ih (i + 1) (by omega)
    rw [fd_fk] at k
    have k0 : ¬ (p.testBit i = true ∧ i ≠ j ∧ fd_dg c i = fd_dg c j ∧ (fd_tm n c i < fd_tm n c j ∨ (fd_tm n c i = fd_tm n c j ∧ i < j))) → wX_finishIn_27 post x (nI p) (nI j) (nI (fd_dg c j)) (nI (fd_tm n c j)) fm fe fp (fd_ti n) (d + 1) (nI (fd_fk n p c j i)) (nI (i + 1)) := by
      intro hc
      rw [if_neg hc, Nat.add_zero] at k
      exact k
    have k1 : (p.testBit i = true ∧ i ≠ j ∧ fd_dg c i = fd_dg c j ∧ (fd_tm n c i < fd_tm n c j ∨ (fd_tm n c i = fd_tm n c j ∧ i < j))) → wX_finishIn_27 post x (nI p) (nI j) (nI (fd_dg c j)) (nI (fd_tm n c j)) fm fe fp (fd_ti n) (d + 1) (nI (fd_fk n p c j i + fd_tm n c i)) (nI (i + 1)) := by
      intro hc
      rw [if_pos hc] at k
      exact k
    refine br_f (lt5' i hi5) ?_
    by_cases hij : i = j
    · exact br_t (by rw [hij]) (nm_r (nI_1 i) (k0 (fun z => z.2.1 hij)))
    · refine br_f (fd_ne (by omega) (by omega) hij) ?_
      refine fd_xhasN p (by omega) ?_
      cases hb : p.testBit i with
      | false => exact br_t rfl (nm_r (nI_1 i) (k0 (fun z => absurd (hb.symm.trans z.1) (by decide))))
      | true =>
        refine br_f (by decide) ?_
        refine fd_xmi hx hi5 ?_
        by_cases hd : fd_dg c i = fd_dg c j
        · refine br_t (by rw [hd]) ?_
          have eix : nI i * 4 + nI (fd_dg c j) = nI (4 * i + fd_dg c i) := by rw [fd_ixA, hd]
          rw [eix]
          refine ⟨vp_in_nI (by omega) (by omega), ?_⟩
          refine nm_r (e' := nI (fd_tm n c i)) (fd_tic n (by omega)) ?_
          by_cases h1 : fd_tm n c i < fd_tm n c j
          · refine br_t (nI_lt h1 (by omega)) ?_
            exact fd_xf98 true (fun z => nomatch z) (fun _ => k1 ⟨hb, hij, hd, Or.inl h1⟩)
          · refine br_f (nI_nlt (by omega) (by omega)) ?_
            by_cases h2 : fd_tm n c i = fd_tm n c j
            · refine br_t (by rw [h2]) ?_
              by_cases h3 : j ≤ i
              · refine br_t (nI_le h3 (by omega)) ?_
                exact fd_xf98 false (fun _ => k0 (fun z => by have := z.2.2.2; omega)) (fun z => nomatch z)
              · refine br_f (nI_ge (by omega) (by omega)) ?_
                exact fd_xf98 true (fun z => nomatch z) (fun _ => k1 ⟨hb, hij, hd, Or.inr ⟨h2, by omega⟩⟩)
            · refine br_f (fd_ne (by omega) (by omega) h2) ?_
              exact fd_xf98 false (fun _ => k0 (fun z => by have := z.2.2.2; omega)) (fun z => nomatch z)
        · exact br_f (fd_ne (by omega) (by omega) hd) (nm_r (nI_1 i) (k0 (fun z => hd z.2.2.1)))
theorem fd_xfin {post : Int32 → Prop} {x : Int32} {c j : Nat} (hx : fd_PV x c) (hn : ∀ i, n i ≤ 15) (hj : j < 5) (h : post (nI (fd_fk n p c j 5))) :
    wpX_finishIn post (fm, fe, fp, fd_ti n) x (nI p) (nI j) := by
  have hd := fd_dg_lt c j
  unfold wpX_finishIn
  refine fd_xmi hx hj ?_
  rw [fd_ixA]
  refine ⟨vp_in_nI (by omega) (by omega), ?_⟩
  refine nm_r (e' := nI (fd_tm n c j)) (fd_tic n (by omega)) ?_
  exact ⟨5 + 1, fd_xfinL hx hn hj h 5 0 rfl⟩

theorem fd_xtotL {post : Int32 → Prop} {x : Int32} {c : Nat} (hx : fd_PV x c) (hn : ∀ i, n i ≤ 15) (h : post (nI (fd_T n p c))) :
    ∀ d i, i + d = 5 → wX_totalOf_5 post x (nI p) fm fe fp (fd_ti n) (d + 1) (nI (fd_tk n p c i)) (nI i) := by
  intro d
  induction d with
  | zero =>
    intro i hi
    have e : i = 5 := by omega
    subst e
    exact br_t (by decide) h
  | succ d ih =>
    intro i hi
    have hi5 : i < 5 := by omega
    have k := ih (i + 1) (by omega)
    rw [fd_tk] at k
    refine br_f (lt5' i hi5) ?_
    refine fd_xhasN p (by omega) ?_
    cases hb : p.testBit i with
    | false =>
      rw [hb, if_neg (by decide), Nat.add_zero] at k
      exact br_t rfl (nm_r (nI_1 i) k)
    | true =>
      rw [hb, if_pos rfl] at k
      refine br_f (by decide) ?_
      refine fd_xfin hx hn hi5 ?_
      exact nm_r (nI_add _ _) (nm_r (nI_1 i) k)
theorem fd_xtot {post : Int32 → Prop} {x : Int32} {c : Nat} (hx : fd_PV x c) (hn : ∀ i, n i ≤ 15) (h : post (nI (fd_T n p c))) : wpX_totalOf post (fm, fe, fp, fd_ti n) x (nI p) :=
  ⟨5 + 1, fd_xtotL hx hn h 5 0 rfl⟩

theorem fd_xfpL {post : Int32 → Prop} {mk : Int32} {o : Nat → Bool} (hn : ∀ i, n i ≤ 15) (hm : fd_MK mk o) (h : post (fd_e1 (fd_bo (fd_T n p) (fd_P o p) 1024))) :
    ∀ d i, i + d = 1024 → wX_firstPlan_8 post (nI p) mk fm fe fp (fd_ti n) (d + 1) (fd_e1 (fd_bo (fd_T n p) (fd_P o p) i)) (fd_e2 (fd_T n p) (fd_bo (fd_T n p) (fd_P o p) i)) (nI i) := by
  intro d
  induction d with
  | zero =>
    intro i hi
    have e : i = 1024 := by omega
    rw [e]
    exact br_t (by decide) h
  | succ d ih =>
    intro i hi
    have hi5 : i < 1024 := by omega
    have k := ih (i + 1) (by omega)
    refine br_f (nI_ge (b := 1024) hi5 (by decide)) ?_
    refine fd_xip (fd_pv hi5) hm ?_
    cases hP : fd_P o p i with
    | false =>
      rw [fd_bo_0 hP] at k
      exact br_t rfl (nm_r (nI_1 i) k)
    | true =>
      refine br_f (by decide) ?_
      refine fd_xtot (fd_pv hi5) hn ?_
      have ht := fd_T_lt hn p i
      cases hb : fd_bo (fd_T n p) (fd_P o p) i with
      | none =>
        rw [fd_bo_1 hP hb] at k
        exact br_t rfl (nm_r (nI_1 i) k)
      | some c =>
        have hc := (fd_bo_s _ _ hb).1
        have hu := fd_T_lt hn p c
        refine br_f (fd_nneg (by omega)) ?_
        by_cases hlt : fd_T n p i < fd_T n p c
        · rw [fd_bo_2 hP hb hlt] at k
          exact br_f (nI_ge hlt (by omega)) (nm_r (nI_1 i) k)
        · rw [fd_bo_3 hP hb hlt] at k
          exact br_t (nI_le (by omega) (by omega)) (nm_r (nI_1 i) k)
theorem fd_xfp {post : Int32 → Prop} {mk : Int32} {o : Nat → Bool} (hn : ∀ i, n i ≤ 15) (hm : fd_MK mk o) (h : post (fd_e1 (fd_bo (fd_T n p) (fd_P o p) 1024))) : wpX_firstPlan post (fm, fe, fp, fd_ti n) (nI p) mk :=
  ⟨1024 + 1, fd_xfpL hn hm h 1024 0 rfl⟩
theorem fd_xlt {post : Int32 → Prop} {mk : Int32} {o : Nat → Bool} (hn : ∀ i, n i ≤ 15) (hm : fd_MK mk o) (h : post (fd_e3 (fd_T n p) (fd_bo (fd_T n p) (fd_P o p) 1024))) : wpX_leastTotal post (fm, fe, fp, fd_ti n) (nI p) mk := by
  unfold wpX_leastTotal
  refine fd_xfp hn hm ?_
  cases hb : fd_bo (fd_T n p) (fd_P o p) 1024 with
  | none =>
    rw [hb] at h
    exact br_t rfl h
  | some c =>
    rw [hb] at h
    have hc := (fd_bo_s _ _ hb).1
    refine br_f (fd_nneg (by omega)) ?_
    exact fd_xtot (fd_pv hc) hn h

theorem fd_xooI {post : Int32 → Prop} {J4 : Int32 → Int32 → Prop} {al : Int32} {j : Nat} (hn : ∀ i, n i ≤ 15) (hj : j < 5) (h : J4 (fd_om n al (4 * (j + 1))) (nI (j + 1))) :
    ∀ d i, i + d = 4 → wX_optionsOn_12 post J4 al (nI j) fm fe fp (fd_ti n) (d + 1) (fd_om n al (4 * j + i)) (nI i) := by
  intro d
  induction d with
  | zero =>
    intro i hi
    have e : i = 4 := by omega
    subst e
    exact br_t (by decide) (nm_r (nI_1 j) h)
  | succ d ih =>
    intro i hi
    have hi4 : i < 4 := by omega
    have k := ih (i + 1) (by omega)
    have em : (4 * j + i) % 4 = i := by omega
    have hn1 := hn (4 * j + i)
    rw [show 4 * j + (i + 1) = 4 * j + i + 1 from rfl, fd_om, em] at k
    refine br_f (nI_ge (b := 4) hi4 (by decide)) ?_
    refine fd_xhas al (by omega) ?_
    cases hb : bt al i with
    | false =>
      rw [hb, if_neg (fun z => absurd z.1 (by decide))] at k
      exact br_t rfl (nm_r (nI_1 i) k)
    | true =>
      refine br_f (by decide) ?_
      rw [fd_ixA]
      refine ⟨vp_in_nI (by omega) (by omega), ?_⟩
      rw [fd_tic n (by omega)]
      by_cases h0 : n (4 * j + i) = 0
      · rw [if_neg (fun z => z.2 h0)] at k
        exact br_t (by rw [h0]; exact nI_0) (nm_r (nI_1 i) k)
      · rw [if_pos ⟨hb, h0⟩] at k
        refine br_f (nI_ne0 (by omega) (by omega)) ?_
        unfold wpX_optionBit
        rw [fd_ixA]
        exact nm_e (nm_r (nI_1 i) k)
theorem fd_xooO {post : Int32 → Prop} {al : Int32} (hn : ∀ i, n i ≤ 15) (h : post (fd_om n al 20)) :
    ∀ d i, i + d = 5 → wX_optionsOn_4 post al fm fe fp (fd_ti n) (d + 1) (fd_om n al (4 * i)) (nI i) := by
  intro d
  induction d with
  | zero =>
    intro i hi
    have e : i = 5 := by omega
    subst e
    exact br_t (by decide) h
  | succ d ih =>
    intro i hi
    exact br_f (lt5' i (by omega)) ⟨4 + 1, fd_xooI hn (by omega) (ih (i + 1) (by omega)) 4 0 rfl⟩
theorem fd_xoo {post : Int32 → Prop} {al : Int32} (hn : ∀ i, n i ≤ 15) (h : post (fd_om n al 20)) : wpX_optionsOn post (fm, fe, fp, fd_ti n) al :=
  ⟨5 + 1, fd_xooO hn h 5 0 rfl⟩

theorem fd_xjmL {post : Int32 → Prop} {x : Int32} {c m : Nat} {a : Nat → Int32} (hx : fd_PV x c) (hm : m < 4) (h : post (nI (fd_ck p c m 5))) :
    ∀ d i, i + d = 5 → wX_jobsOnMachine_5 post x (nI m) fm fe (nI p) a (d + 1) (nI (fd_ck p c m i)) (nI i) := by
  intro d
  induction d with
  | zero =>
    intro i hi
    have e : i = 5 := by omega
    subst e
    exact br_t (by decide) h
  | succ d ih =>
    intro i hi
    have hi5 : i < 5 := by omega
    have hd := fd_dg_lt c i
    have k := ih (i + 1) (by omega)
    rw [fd_ck] at k
    refine br_f (lt5' i hi5) ?_
    refine fd_xhasN p (by omega) ?_
    cases hb : p.testBit i with
    | false =>
      rw [if_neg (fun z => absurd (hb.symm.trans z.1) (by decide)), Nat.add_zero] at k
      exact br_t rfl (nm_r (nI_1 i) k)
    | true =>
      refine br_f (by decide) ?_
      refine fd_xmi hx hi5 ?_
      by_cases h0 : fd_dg c i = m
      · rw [if_pos ⟨hb, h0⟩] at k
        exact br_t (by rw [h0]) (nm_r (nI_1 _) (nm_r (nI_1 i) k))
      · rw [if_neg (fun z => h0 z.2), Nat.add_zero] at k
        exact br_f (fd_ne (by omega) (by omega) h0) (nm_r (nI_1 i) k)
theorem fd_xjm {post : Int32 → Prop} {x : Int32} {c m : Nat} {a : Nat → Int32} (hx : fd_PV x c) (hm : m < 4) (h : post (nI (fd_ck p c m 5))) : wpX_jobsOnMachine post (fm, fe, nI p, a) x (nI m) :=
  ⟨5 + 1, fd_xjmL hx hm h 5 0 rfl⟩

theorem fd_xmjL {post : Int32 → Prop} {mk L : Int32} {o : Nat → Bool} {m : Nat} (hn : ∀ i, n i ≤ 15) (hm : fd_MK mk o) (hm4 : m < 4) (h : post (nI (fd_mk (fd_T n p) (fd_P o p) L p m 1024))) :
    ∀ d i, i + d = 1024 → wX_mostJobs_35 post (nI m) mk L fm fe (nI p) (fd_ti n) (d + 1) (nI (fd_mk (fd_T n p) (fd_P o p) L p m i)) (nI i) := by
  intro d
  induction d with
  | zero =>
    intro i hi
    have e : i = 1024 := by omega
    rw [e]
    exact br_t (by decide) h
  | succ d ih =>
    intro i hi
    have hi5 : i < 1024 := by omega
    have k := ih (i + 1) (by omega)
    have hc := fd_ck_le p i m 5
    have hq := fd_mk_le (fd_T n p) (fd_P o p) L p m i
    rw [fd_mk] at k
    refine br_f (nI_ge (b := 1024) hi5 (by decide)) ?_
    refine fd_xip (fd_pv hi5) hm ?_
    cases hP : fd_P o p i with
    | false =>
      rw [if_neg (fun z => absurd (hP.symm.trans z.1) (by decide))] at k
      exact br_t rfl (nm_r (nI_1 i) k)
    | true =>
      refine br_f (by decide) ?_
      refine fd_xtot (fd_pv hi5) hn ?_
      by_cases hL : nI (fd_T n p i) = L
      · rw [if_pos ⟨hP, hL⟩] at k
        refine br_t hL ?_
        refine fd_xjm (fd_pv hi5) hm4 ?_
        by_cases hlt : fd_mk (fd_T n p) (fd_P o p) L p m i < fd_ck p i m 5
        · rw [if_pos hlt] at k
          exact br_f (nI_ge hlt (by omega)) (nm_r (nI_1 i) k)
        · rw [if_neg hlt] at k
          exact br_t (nI_le (by omega) (by omega)) (nm_r (nI_1 i) k)
      · rw [if_neg (fun z => hL z.2)] at k
        exact br_f hL (nm_r (nI_1 i) k)
end
