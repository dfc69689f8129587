/-! the reference's walks against the same picture -/
theorem fd_nb (b : Bool) : narrow .boolean (.int (fd_b b)) = .int (fd_b b) := by
  cases b <;> rfl
theorem fd_n0 : vp_nar .boolean 0 = 0 := rfl
theorem fd_n1 : vp_nar .boolean 1 = 1 := rfl
theorem fd_thc (p : Nat) {k : Nat} (h : k < 2 ^ 31) : fd_th p (nI k).toNatClampNeg = fd_b (p.testBit k) := by
  rw [nI_clamp h]
  rfl
section
variable {cr al mu mb : Int32} {n : Nat → Nat} {p : Nat}

theorem fd_yw86 {post : Int32 → SY → Prop} {J4 : Int32 → Int32 → (Nat → Int32) → (Nat → Int32) → (Nat → Int32) → Prop} {x1 : Int32} {ti on : Nat → Int32} {i d : Nat} (b z : Bool) (hi : i < 5) (hd : d < 4) (hon : on i = nI d)
    (h : J4 (fd_b (b && (if p.testBit i = true then z else decide (d = 0)))) (nI (i + 1)) (fd_th p) ti on) : wY_way_86 post J4 x1 (fd_b b) (nI i) (fd_b z) cr al mu mb (fd_th p) ti on := by
  unfold wY_way_86
  cases b with
  | false =>
    rw [Bool.false_and] at h
    exact br_t rfl (nm_r (nI_1 i) h)
  | true =>
    rw [Bool.true_and] at h
    refine br_f (by decide) ⟨vp_in_nI hi (by omega), ?_⟩
    rw [fd_thc p (by omega), nI_clamp (n := i) (by omega), hon]
    cases hb : p.testBit i with
    | false =>
      rw [hb, if_neg (by decide)] at h
      refine br_t rfl ⟨vp_in_nI hi (by omega), ?_⟩
      by_cases h0 : d = 0
      · rw [decide_eq_true h0] at h
        exact br_t (by rw [h0]; exact nI_0) (nm_r (nI_1 i) h)
      · rw [decide_eq_false h0] at h
        exact br_f (nI_ne0 (by omega) (by omega)) (nm_r (nI_1 i) h)
    | true =>
      rw [hb, if_pos rfl] at h
      refine br_f (by decide) ?_
      cases z with
      | false => exact br_t rfl (nm_r (nI_1 i) h)
      | true => exact br_f (by decide) (nm_r (nI_1 i) h)
theorem fd_ywL {post : Int32 → SY → Prop} {c : Nat} (hn : ∀ i, n i ≤ 15) (hc : c < 1024)
    (h : ∀ on : Nat → Int32, (∀ k, k < 5 → on k = nI (fd_dg c k)) → post (fd_b (fd_P (fd_op n al mu mb) p c)) (cr, al, mu, mb, fd_th p, fd_ti n, on)) :
    ∀ d i (on : Nat → Int32), i + d = 5 → (∀ k, k < i → on k = nI (fd_dg c k)) → wY_way_4 post (nI c) cr al mu mb (d + 1) (fd_b (fd_ip (fd_op n al mu mb) p c i)) (nI i) (fd_th p) (fd_ti n) on := by
  intro d
  induction d with
  | zero =>
    intro i on hi hon
    have e : i = 5 := by omega
    subst e
    exact br_t (by decide) ⟨fd_nb _, h on hon⟩
  | succ d ih =>
    intro i on hi hon
    have hi5 : i < 5 := by omega
    have hd := fd_dg_lt c i
    have hn1 := hn (4 * i + fd_dg c i)
    have hon2 : ∀ k, k < i + 1 → upd on i (nI (fd_dg c i)) k = nI (fd_dg c k) := by
      intro k hk
      by_cases e : k = i
      · rw [e]; exact pk_us
      · rw [pk_un e]; exact hon k (by omega)
    have key : ∀ z : Bool, z = fd_op n al mu mb (4 * i + fd_dg c i) → wY_way_86 post (wY_way_4 post (nI c) cr al mu mb (d + 1)) (nI c) (fd_b (fd_ip (fd_op n al mu mb) p c i)) (nI i) (fd_b z) cr al mu mb (fd_th p) (fd_ti n) (upd on i (nI (fd_dg c i))) := by
      intro z hz
      refine fd_yw86 _ z hi5 hd pk_us ?_
      rw [hz]
      exact ih (i + 1) _ (by omega) hon2
    have em : (4 * i + fd_dg c i) % 4 = fd_dg c i := by omega
    have eq : (4 * i + fd_dg c i) / 4 = i := by omega
    unfold fd_op at key
    rw [em, eq] at key
    refine br_f (lt5' i hi5) ⟨vp_in_nI hi5 (by omega), ?_⟩
    refine nm_r (e' := upd on i (nI (fd_dg c i))) (by rw [nI_clamp (n := i) (by omega), fd_dgY hc hi5]) ?_
    have eon : upd on i (nI (fd_dg c i)) (nI i).toNatClampNeg = nI (fd_dg c i) := by
      rw [nI_clamp (n := i) (by omega)]
      exact pk_us
    rw [eon, fd_ixB]
    refine ⟨vp_in_nI hi5 (by omega), vp_in_nI (by omega) (by omega), ?_⟩
    rw [fd_tic n (by omega)]
    by_cases h0 : n (4 * i + fd_dg c i) = 0
    · refine br_t (by rw [h0]; decide) ?_
      refine key false ?_
      rw [h0]
      simp
    · refine br_f (nI_nle (by omega) (by omega)) ⟨vp_in_nI hi5 (by omega), ?_⟩
      rw [fd_has al (by omega)]
      cases hb : bt al (fd_dg c i) with
      | false =>
        refine br_f (by decide) ?_
        refine key false ?_
        rw [hb]
        simp
      | true =>
        refine br_t rfl ?_
        by_cases hmu : nI i = mu
        · refine br_t hmu ⟨vp_in_nI hi5 (by omega), ?_⟩
          by_cases hmb : nI (fd_dg c i) = mb
          · refine br_t hmb ?_
            refine key true ?_
            rw [hb]
            simp [h0, hmb]
          · refine br_f hmb ?_
            refine key false ?_
            rw [hb]
            simp [h0, hmb, hmu]
        · refine br_f hmu ?_
          refine key true ?_
          rw [hb]
          simp [h0, hmu]
theorem fd_yway {post : Int32 → SY → Prop} {c : Nat} {on0 : Nat → Int32} (hn : ∀ i, n i ≤ 15) (hc : c < 1024)
    (h : ∀ on : Nat → Int32, (∀ k, k < 5 → on k = nI (fd_dg c k)) → post (fd_b (fd_P (fd_op n al mu mb) p c)) (cr, al, mu, mb, fd_th p, fd_ti n, on)) :
    wpY_way post (cr, al, mu, mb, fd_th p, fd_ti n, on0) (nI c) :=
  ⟨5 + 1, fd_ywL hn hc h 5 0 on0 rfl (fun k hk => absurd hk (Nat.not_lt_zero k))⟩

theorem fd_yf69 {post : Int32 → Prop} {J : Int32 → Int32 → Prop} {x2 : Int32} {ti on : Nat → Int32} {i j di dj s t : Nat} (z : Bool) (hi : i < 5) (hj : j < 5) (hdi : di < 4) (hdj : dj < 4) (hoi : on i = nI di) (hoj : on j = nI dj)
    (k0 : ¬ (p.testBit i = true ∧ i ≠ j ∧ di = dj ∧ z = true) → J (nI s) (nI (i + 1))) (k1 : (p.testBit i = true ∧ i ≠ j ∧ di = dj ∧ z = true) → J (nI (s + t)) (nI (i + 1))) :
    wY_finish_69 post J (nI j) x2 (nI s) (nI i) (nI t) (fd_b z) cr al mu mb (fd_th p) ti on := by
  unfold wY_finish_69
  refine ⟨vp_in_nI hi (by omega), ?_⟩
  rw [fd_thc p (by omega), nI_clamp (n := i) (by omega), nI_clamp (n := j) (by omega), hoi, hoj]
  cases hb : p.testBit i with
  | false => exact br_t rfl (nm_r (Int32.add_zero _) (nm_r (nI_1 i) (k0 (fun w => absurd (hb.symm.trans w.1) (by decide)))))
  | true =>
    refine br_f (by decide) ?_
    by_cases hij : i = j
    · exact br_t (by rw [hij]) (nm_r (Int32.add_zero _) (nm_r (nI_1 i) (k0 (fun w => w.2.1 hij))))
    · refine br_f (fd_ne (by omega) (by omega) hij) ⟨vp_in_nI hi (by omega), vp_in_nI hj (by omega), ?_⟩
      by_cases hd : di = dj
      · refine br_t (by rw [hd]) ?_
        cases z with
        | false => exact br_t rfl (nm_r (Int32.add_zero _) (nm_r (nI_1 i) (k0 (fun w => absurd w.2.2.2 (by decide)))))
        | true => exact br_f (by decide) (nm_r (nI_add s t) (nm_r (nI_1 i) (k1 ⟨hb, hij, hd, rfl⟩)))
      · exact br_f (fd_ne (by omega) (by omega) hd) (nm_r (Int32.add_zero _) (nm_r (nI_1 i) (k0 (fun w => hd w.2.2.1))))
theorem fd_yfinL {post : Int32 → Prop} {c j : Nat} {on : Nat → Int32} (hn : ∀ i, n i ≤ 15) (hj : j < 5) (hon : ∀ k, k < 5 → on k = nI (fd_dg c k)) (h : post (nI (fd_fk n p c j 5))) :
    ∀ d i, i + d = 5 → wY_finish_21 post (nI j) (nI (fd_tm n c j)) cr al mu mb (fd_th p) (fd_ti n) on (d + 1) (nI (fd_fk n p c j i)) (nI i) := by
  intro d
  induction d with
  | zero =>
    intro i hi
    have e : i = 5 := by omega
    subst e
    exact br_t (by decide) h
  | succ d ih =>
    intro i hi
    have hi5 : i < 5 := by omega
    have hd1 := fd_dg_lt c i
    have hd2 := fd_dg_lt c j
    have ht1 : fd_tm n c i ≤ 15 := hn _
    have ht2 : fd_tm n c j ≤ 15 := hn _
    have k := ih (i + 1) (by omega)
    rw [fd_fk] at k
    have key : ∀ z : Bool, (z = true ↔ (fd_tm n c i < fd_tm n c j ∨ (fd_tm n c i = fd_tm n c j ∧ i < j))) → wY_finish_69 post (wY_finish_21 post (nI j) (nI (fd_tm n c j)) cr al mu mb (fd_th p) (fd_ti n) on (d + 1)) (nI j) (nI (fd_tm n c j)) (nI (fd_fk n p c j i)) (nI i) (nI (fd_tm n c i)) (fd_b z) cr al mu mb (fd_th p) (fd_ti n) on := by
      intro z hz
      refine fd_yf69 z hi5 hj hd1 hd2 (hon i hi5) (hon j hj) ?_ ?_
      · intro w
        rw [if_neg (fun v => w ⟨v.1, v.2.1, v.2.2.1, hz.mpr v.2.2.2⟩), Nat.add_zero] at k
        exact k
      · intro w
        rw [if_pos ⟨w.1, w.2.1, w.2.2.1, hz.mp w.2.2.2⟩] at k
        exact k
    have eon : on (nI i).toNatClampNeg = nI (fd_dg c i) := by
      rw [nI_clamp (n := i) (by omega)]
      exact hon i hi5
    refine br_f (lt5' i hi5) ?_
    rw [eon, fd_ixB]
    refine ⟨vp_in_nI hi5 (by omega), vp_in_nI (by omega) (by omega), ?_⟩
    refine nm_r (e' := nI (fd_tm n c i)) (fd_tic n (by omega)) ?_
    by_cases h1 : fd_tm n c i < fd_tm n c j
    · exact br_t (nI_lt h1 (by omega)) (key true ⟨fun _ => Or.inl h1, fun _ => rfl⟩)
    · refine br_f (nI_nlt (by omega) (by omega)) ?_
      by_cases h2 : fd_tm n c i = fd_tm n c j
      · refine br_t (by rw [h2]) ?_
        by_cases h3 : j ≤ i
        · exact br_t (nI_le h3 (by omega)) (key false ⟨(fun w => nomatch w), fun w => absurd w (by omega)⟩)
        · exact br_f (nI_ge (by omega) (by omega)) (key true ⟨fun _ => Or.inr ⟨h2, by omega⟩, fun _ => rfl⟩)
      · exact br_f (fd_ne (by omega) (by omega) h2) (key false ⟨(fun w => nomatch w), fun w => absurd w (by omega)⟩)
theorem fd_yfin {post : Int32 → Prop} {c j : Nat} {on : Nat → Int32} (hn : ∀ i, n i ≤ 15) (hj : j < 5) (hon : ∀ k, k < 5 → on k = nI (fd_dg c k)) (h : post (nI (fd_fk n p c j 5))) :
    wpY_finish post (cr, al, mu, mb, fd_th p, fd_ti n, on) (nI j) := by
  have hd := fd_dg_lt c j
  have eon : on (nI j).toNatClampNeg = nI (fd_dg c j) := by
    rw [nI_clamp (n := j) (by omega)]
    exact hon j hj
  unfold wpY_finish
  dsimp only
  rw [eon, fd_ixB]
  refine ⟨vp_in_nI hj (by omega), vp_in_nI (by omega) (by omega), ?_⟩
  refine nm_r (e' := nI (fd_tm n c j)) (fd_tic n (by omega)) ?_
  exact ⟨5 + 1, fd_yfinL hn hj hon h 5 0 rfl⟩

theorem fd_ysumL {post : Int32 → Prop} {c : Nat} {on : Nat → Int32} (hn : ∀ i, n i ≤ 15) (hon : ∀ k, k < 5 → on k = nI (fd_dg c k)) (h : post (nI (fd_T n p c))) :
    ∀ d i, i + d = 5 → wY_sum_4 post cr al mu mb (fd_th p) (fd_ti n) on (d + 1) (nI (fd_tk n p c i)) (nI i) := by
  intro d
  induction d with
  | zero =>
    intro i hi
    have e : i = 5 := by omega
    subst e
    exact br_t (by decide) h
  | succ d ih =>
    intro i hi
    have hi5 : i < 5 := by omega
    have k := ih (i + 1) (by omega)
    rw [fd_tk] at k
    refine br_f (lt5' i hi5) ⟨vp_in_nI hi5 (by omega), ?_⟩
    rw [fd_thc p (by omega)]
    cases hb : p.testBit i with
    | false =>
      rw [hb, if_neg (by decide), Nat.add_zero] at k
      exact br_t rfl (nm_r (Int32.add_zero _) (nm_r (nI_1 i) k))
    | true =>
      rw [hb, if_pos rfl] at k
      refine br_f (by decide) ?_
      refine fd_yfin hn hi5 hon ?_
      exact nm_r (nI_add _ _) (nm_r (nI_1 i) k)
theorem fd_ysum {post : Int32 → Prop} {c : Nat} {on : Nat → Int32} (hn : ∀ i, n i ≤ 15) (hon : ∀ k, k < 5 → on k = nI (fd_dg c k)) (h : post (nI (fd_T n p c))) : wpY_sum post (cr, al, mu, mb, fd_th p, fd_ti n, on) :=
  ⟨5 + 1, fd_ysumL hn hon h 5 0 rfl⟩

theorem fd_yloL {post : Int32 → SY → Prop} (hn : ∀ i, n i ≤ 15)
    (h : ∀ on : Nat → Int32, post (fd_e3 (fd_T n p) (fd_bo (fd_T n p) (fd_P (fd_op n al mu mb) p) 1024)) (cr, al, mu, mb, fd_th p, fd_ti n, on)) :
    ∀ d i (on : Nat → Int32), i + d = 1024 → wY_leastOf_21 post (d + 1) (fd_e3 (fd_T n p) (fd_bo (fd_T n p) (fd_P (fd_op n al mu mb) p) i)) (nI i) cr al mu mb (fd_th p) (fd_ti n) on := by
  intro d
  induction d with
  | zero =>
    intro i on hi
    have e : i = 1024 := by omega
    rw [e]
    exact br_t (by decide) (h on)
  | succ d ih =>
    intro i on0 hi
    have hi5 : i < 1024 := by omega
    refine br_f (nI_ge (b := 1024) hi5 (by decide)) ?_
    refine fd_yway hn hi5 ?_
    intro on hon
    have k := ih (i + 1) on (by omega)
    cases hP : fd_P (fd_op n al mu mb) p i with
    | false =>
      rw [fd_bo_0 hP] at k
      exact br_t rfl (nm_r (nI_1 i) k)
    | true =>
      refine br_f (by decide) ?_
      refine fd_ysum hn hon ?_
      have ht := fd_T_lt hn p i
      cases hb : fd_bo (fd_T n p) (fd_P (fd_op n al mu mb) p) i with
      | none =>
        rw [fd_bo_1 hP hb] at k
        exact br_t (by decide : (-1 : Int32) < 0) (nm_r (nI_1 i) k)
      | some c =>
        have hu := fd_T_lt hn p c
        refine br_f (nI_pos (by omega)) ?_
        by_cases hlt : fd_T n p i < fd_T n p c
        · rw [fd_bo_2 hP hb hlt] at k
          exact br_f (nI_ge hlt (by omega)) (nm_r (nI_1 i) k)
        · rw [fd_bo_3 hP hb hlt] at k
          exact br_t (nI_le (by omega) (by omega)) (nm_r (nI_1 i) k)
theorem fd_ylo {post : Int32 → SY → Prop} {al0 mu0 mb0 : Int32} {on0 : Nat → Int32} (hn : ∀ i, n i ≤ 15)
    (h : ∀ on : Nat → Int32, post (fd_e3 (fd_T n p) (fd_bo (fd_T n p) (fd_P (fd_op n al mu mb) p) 1024)) (cr, al, mu, mb, fd_th p, fd_ti n, on)) :
    wpY_leastOf post (cr, al0, mu0, mb0, fd_th p, fd_ti n, on0) al mu mb :=
  ⟨1024 + 1, fd_yloL hn h 1024 0 on0 rfl⟩

theorem fd_yplL {post : SY → Prop} (hn : ∀ i, n i ≤ 15)
    (h : ∀ on : Nat → Int32, (∀ k, k < 5 → on k = nI (fd_dg (fd_gd (fd_bo (fd_T n p) (fd_P (fd_op n al mu mb) p) 1024)) k)) → post (cr, al, mu, mb, fd_th p, fd_ti n, on)) :
    ∀ d i (on : Nat → Int32), i + d = fd_gd (fd_bo (fd_T n p) (fd_P (fd_op n al mu mb) p) 1024) → wY_plan_13 post (fd_e3 (fd_T n p) (fd_bo (fd_T n p) (fd_P (fd_op n al mu mb) p) 1024)) (d + 1 + 1) (nI i) cr al mu mb (fd_th p) (fd_ti n) on := by
  have hg := fd_gd_lt (T := fd_T n p) (P := fd_P (fd_op n al mu mb) p)
  cases hb : fd_bo (fd_T n p) (fd_P (fd_op n al mu mb) p) 1024 with
  | none =>
    rw [hb] at h hg
    have hf := fd_bo_n _ hb
    intro d
    induction d with
    | zero =>
      intro i on0 hi
      have e : i = 1023 := hi
      subst e
      refine br_f (by decide) ?_
      refine fd_yway hn (by decide) ?_
      intro on hon
      rw [hf 1023 (by decide)]
      refine br_t rfl (nm_r (nI_1 1023) ?_)
      exact br_t (by decide) (h on hon)
    | succ d ih =>
      intro i on0 hi
      have hi2 : i + (d + 1) = 1023 := hi
      have hi5 : i < 1024 := by omega
      refine br_f (nI_ge (b := 1024) hi5 (by decide)) ?_
      refine fd_yway hn hi5 ?_
      intro on hon
      rw [hf i hi5]
      refine br_t rfl (nm_r (nI_1 i) ?_)
      exact ih (i + 1) on (by show i + 1 + d = 1023; omega)
  | some c =>
    rw [hb] at h hg
    obtain ⟨hc, hPc, hmin, hfirst⟩ := fd_bo_s _ _ hb
    have hu := fd_T_lt hn p c
    intro d
    induction d with
    | zero =>
      intro i on0 hi
      have e : i = c := hi
      subst e
      refine br_f (nI_ge (b := 1024) hc (by decide)) ?_
      refine fd_yway hn hc ?_
      intro on hon
      rw [hPc]
      refine br_f (by decide) ?_
      refine fd_ysum hn hon ?_
      exact br_t rfl (h on hon)
    | succ d ih =>
      intro i on0 hi
      have hi2 : i + (d + 1) = c := hi
      have hi5 : i < 1024 := by omega
      have ht := fd_T_lt hn p i
      refine br_f (nI_ge (b := 1024) hi5 (by decide)) ?_
      refine fd_yway hn hi5 ?_
      intro on hon
      have k := ih (i + 1) on (by show i + 1 + d = c; omega)
      cases hP : fd_P (fd_op n al mu mb) p i with
      | false => exact br_t rfl (nm_r (nI_1 i) k)
      | true =>
        refine br_f (by decide) ?_
        refine fd_ysum hn hon ?_
        have hl := hfirst i (by omega) hP
        exact br_f (fd_ne (by omega) (by omega) (by omega)) (nm_r (nI_1 i) k)

theorem fd_ymjI {post : Int32 → SY → Prop} {J : Int32 → Int32 → Int32 → Int32 → Int32 → Int32 → (Nat → Int32) → (Nat → Int32) → (Nat → Int32) → Prop} {x2 : Int32} {ti on : Nat → Int32} {c m q i4 : Nat} (hm : m < 4) (hq : q ≤ 5) (hon : ∀ k, k < 5 → on k = nI (fd_dg c k))
    (h : J (nI (if q < fd_ck p c m 5 then fd_ck p c m 5 else q)) (nI (i4 + 1)) cr al mu mb (fd_th p) ti on) :
    ∀ d i, i + d = 5 → wY_mostJobs_57 post J (nI m) x2 (nI q) (nI i4) cr al mu mb (fd_th p) ti on (d + 1) (nI (fd_ck p c m i)) (nI i) := by
  intro d
  induction d with
  | zero =>
    intro i hi
    have e : i = 5 := by omega
    subst e
    have hc := fd_ck_le p c m 5
    refine br_t (by decide) ?_
    unfold wY_mostJobs_100
    by_cases hlt : q < fd_ck p c m 5
    · rw [if_pos hlt] at h
      exact br_f (nI_ge hlt (by omega)) (nm_r (nI_1 i4) h)
    · rw [if_neg hlt] at h
      exact br_t (nI_le (by omega) (by omega)) (nm_r (nI_1 i4) h)
  | succ d ih =>
    intro i hi
    have hi5 : i < 5 := by omega
    have hd := fd_dg_lt c i
    have k := ih (i + 1) (by omega)
    rw [fd_ck] at k
    refine br_f (lt5' i hi5) ⟨vp_in_nI hi5 (by omega), ?_⟩
    rw [fd_thc p (by omega), nI_clamp (n := i) (by omega), hon i hi5]
    cases hb : p.testBit i with
    | false =>
      rw [if_neg (fun z => absurd (hb.symm.trans z.1) (by decide)), Nat.add_zero] at k
      exact br_t rfl (nm_r (Int32.add_zero _) (nm_r (nI_1 i) k))
    | true =>
      refine br_f (by decide) ⟨vp_in_nI hi5 (by omega), ?_⟩
      by_cases h0 : fd_dg c i = m
      · rw [if_pos ⟨hb, h0⟩] at k
        exact br_t (by rw [h0]) (nm_r (nI_1 _) (nm_r (nI_1 i) k))
      · rw [if_neg (fun z => h0 z.2), Nat.add_zero] at k
        exact br_f (fd_ne (by omega) (by omega) h0) (nm_r (Int32.add_zero _) (nm_r (nI_1 i) k))
theorem fd_ymjL {post : Int32 → SY → Prop} {L : Int32} {m : Nat} (hn : ∀ i, n i ≤ 15) (hm : m < 4)
    (h : ∀ on : Nat → Int32, post (nI (fd_mk (fd_T n p) (fd_P (fd_op n al mu mb) p) L p m 1024)) (cr, al, mu, mb, fd_th p, fd_ti n, on)) :
    ∀ d i (on : Nat → Int32), i + d = 1024 → wY_mostJobs_26 post (nI m) L (d + 1) (nI (fd_mk (fd_T n p) (fd_P (fd_op n al mu mb) p) L p m i)) (nI i) cr al mu mb (fd_th p) (fd_ti n) on := by
  intro d
  induction d with
  | zero =>
    intro i on hi
    have e : i = 1024 := by omega
    rw [e]
    exact br_t (by decide) (h on)
  | succ d ih =>
    intro i on0 hi
    have hi5 : i < 1024 := by omega
    have hq := fd_mk_le (fd_T n p) (fd_P (fd_op n al mu mb) p) L p m i
    refine br_f (nI_ge (b := 1024) hi5 (by decide)) ?_
    refine fd_yway hn hi5 ?_
    intro on hon
    have k := ih (i + 1) on (by omega)
    rw [fd_mk] at k
    cases hP : fd_P (fd_op n al mu mb) p i with
    | false =>
      rw [if_neg (fun z => absurd (hP.symm.trans z.1) (by decide))] at k
      refine br_t rfl ?_
      unfold wY_mostJobs_100
      exact br_t (nI_pos' (by omega)) (nm_r (nI_1 i) k)
    | true =>
      refine br_f (by decide) ?_
      refine fd_ysum hn hon ?_
      by_cases hL : nI (fd_T n p i) = L
      · rw [if_pos ⟨hP, hL⟩] at k
        exact br_t hL ⟨5 + 1, fd_ymjI hm hq hon k 5 0 rfl⟩
      · rw [if_neg (fun z => hL z.2)] at k
        refine br_f hL ?_
        unfold wY_mostJobs_100
        exact br_t (nI_pos' (by omega)) (nm_r (nI_1 i) k)
end
