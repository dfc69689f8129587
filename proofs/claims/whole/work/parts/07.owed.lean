/-! the relation and what is owed -/
def i_Rel (_ : Nat) (u : SX) (v : SY) : Prop :=
  ∃ (w p : Nat) (n : Nat → Nat) (al mu mb : Int32) (on : Nat → Int32), 1 ≤ w ∧ w ≤ 3 ∧ p < 32 ∧ (∀ i, n i ≤ 15) ∧ (∀ j c, w ≤ c → c < 3 → n (4 * j + c) = 0) ∧
    u = (nI w, ((1 : Int32) <<< (nI w &&& 31)) - 1, nI p, fd_ti n) ∧ v = (nI w, al, mu, mb, fd_th p, fd_ti n, on)
theorem fd_rel {k w p : Nat} {n : Nat → Nat} {al mu mb : Int32} {on : Nat → Int32} (h1 : 1 ≤ w) (h2 : w ≤ 3) (h3 : p < 32) (h4 : ∀ i, n i ≤ 15) (h5 : ∀ j c, w ≤ c → c < 3 → n (4 * j + c) = 0) :
    i_Rel k (nI w, ((1 : Int32) <<< (nI w &&& 31)) - 1, nI p, fd_ti n) (nI w, al, mu, mb, fd_th p, fd_ti n, on) :=
  ⟨w, p, n, al, mu, mb, on, h1, h2, h3, h4, h5, rfl, rfl⟩
theorem i_up {k : Nat} {u : SX} {v : SY} (h : i_Rel k u v) : i_Rel (k + 4) u v := h
theorem fd_th0 : fd_th 0 = fun _ => 0 := by
  funext i
  unfold fd_th
  rw [Nat.zero_testBit]
  rfl
theorem fd_rel0 {k w : Nat} (h1 : 1 ≤ w) (h2 : w ≤ 3) : i_Rel k (nI w, ((1 : Int32) <<< (nI w &&& 31)) - 1, 0, (fun _ => 0)) (nI w, 0, 0, 0, (fun _ => 0), (fun _ => 0), (fun _ => 0)) := by
  have h := fd_rel (k := k) (w := w) (p := 0) (n := fun _ => 0) (al := 0) (mu := 0) (mb := 0) (on := fun _ => 0) h1 h2 (by decide) (fun _ => Nat.zero_le 15) (fun _ _ _ _ => rfl)
  rw [fd_th0] at h
  exact h
theorem i_vc0 (k0 : Int32) : wpX_init (fun u => wpY_init (fun v => i_Rel 1 u v) k0) k0 := by
  unfold wpX_init wpY_init wX_init_32
  by_cases h1 : 1 ≤ k0
  · by_cases h3 : k0 ≤ 3
    · obtain ⟨w, hw, rfl⟩ := nI_of2 (M := 3) (n := 3) (by decide) (Int32.not_lt.mpr (Int32.le_trans (by decide : (0 : Int32) ≤ 1) h1)) h3
      have hw1 : 1 ≤ w := (nI_leI (a := 1) (b := w) (by decide) (by omega)).mp h1
      exact br_t h1 (br_t h3 (nm_e (br_t h1 (br_t h3 (fd_rel0 hw1 hw)))))
    · exact br_t h1 (br_f h3 (nm_e (br_t h1 (br_f h3 (fd_rel0 (w := 3) (by decide) (by decide))))))
  · exact br_f h1 (nm_e (br_f h1 (fd_rel0 (w := 1) (by decide) (by decide))))
theorem fd_add {k w p : Nat} {n : Nat → Nat} {al mu mb : Int32} {on : Nat → Int32} (h1 : 1 ≤ w) (h2 : w ≤ 3) (h3 : p < 32) (h4 : ∀ i, n i ≤ 15) (h5 : ∀ j c, w ≤ c → c < 3 → n (4 * j + c) = 0) (a b c : Int32) (hb : w ≤ 1 → b = 0) (hc : w ≤ 2 → c = 0) :
    wX_add_28 (fun r u' => wY_add_31 (fun r' v' => r' = r ∧ i_Rel (k + 4) u' v') a b c (nI w) al mu mb (fd_th p) (fd_ti n) on) a b c (nI w) (((1 : Int32) <<< (nI w &&& 31)) - 1) (nI p) (fd_ti n) := by
  rcases fd_a28 a b c with ⟨hX, hY⟩ | ⟨a', b', c', la, lb, lc, rfl, rfl, rfl, hX, hY⟩
  · exact hX _ _ _ _ _ (hY _ _ _ _ _ _ _ _ ⟨rfl, fd_rel h1 h2 h3 h4 h5⟩)
  · have zb : w ≤ 1 → b' = 0 := fun h => (nI_eq (a := b') (b := 0) (by omega) (by decide)).mp (hb h)
    have zc : w ≤ 2 → c' = 0 := fun h => (nI_eq (a := c') (b := 0) (by omega) (by decide)).mp (hc h)
    refine hX _ _ _ _ _ (fd_xa71 h3 ?_ ?_)
    · intro e
      refine hY _ _ _ _ _ _ _ _ ⟨fd_fr p + 1, fd_ya89 h3 (fun _ => ⟨rfl, fd_rel h1 h2 h3 h4 h5⟩) (fun z => absurd e (by omega)) (fd_fr p) 0 (Nat.zero_add _)⟩
    · intro e
      refine hY _ _ _ _ _ _ _ _ ⟨fd_fr p + 1, fd_ya89 h3 (fun z => absurd e (by omega)) (fun _ => ⟨rfl, ?_⟩) (fd_fr p) 0 (Nat.zero_add _)⟩
      exact fd_rel h1 h2 (fd_ad_lt p h3 _ e) (fd_a3_le h4 la lb lc) (fd_a3_z h1 h5 zb zc)
theorem i_vc_add {k : Nat} {u : SX} {v : SY} (I : i_Rel k u v) (hk : k + 4 ≤ 2049) (v1 : Int32) (v2 : Int32) (v3 : Int32) : wpX_add (fun r u' => wpY_add (fun r' v' => r' = r ∧ i_Rel (k + 4) u' v') v v1 v2 v3) u v1 v2 v3 := by
  obtain ⟨w, p, n, al, mu, mb, on, h1, h2, h3, h4, h5, rfl, rfl⟩ := I
  unfold wpX_add wpY_add wX_add_13 wY_add_16
  by_cases w1 : w ≤ 1
  · have x1 : nI w ≤ 1 := nI_le w1 (by decide)
    have x2 : nI w ≤ 2 := nI_le (b := 2) (by omega) (by decide)
    simp only [x1, x2, true_implies, not_true_eq_false, false_implies, and_true]
    exact fd_add h1 h2 h3 h4 h5 v1 0 0 (fun _ => rfl) (fun _ => rfl)
  · have x1 : ¬ nI w ≤ 1 := nI_ge (b := w) (a := 1) (by omega) (by omega)
    by_cases w2 : w ≤ 2
    · have x2 : nI w ≤ 2 := nI_le (b := 2) (by omega) (by decide)
      simp only [x1, x2, true_implies, not_true_eq_false, not_false_eq_true, false_implies, and_true, true_and]
      exact fd_add h1 h2 h3 h4 h5 v1 v2 0 (fun z => absurd z w1) (fun _ => rfl)
    · have x2 : ¬ nI w ≤ 2 := nI_ge (b := w) (a := 2) (by omega) (by omega)
      simp only [x1, x2, true_implies, not_false_eq_true, false_implies, true_and]
      exact fd_add h1 h2 h3 h4 h5 v1 v2 v3 (fun z => absurd z w1) (fun z => absurd z w2)
theorem i_vc_remove {k : Nat} {u : SX} {v : SY} (I : i_Rel k u v) (hk : k + 4 ≤ 2049) (v1 : Int32) : wpX_remove (fun r u' => wpY_remove (fun r' v' => r' = r ∧ i_Rel (k + 4) u' v') v v1) u v1 := by
  obtain ⟨w, p, n, al, mu, mb, on, h1, h2, h3, h4, h5, rfl, rfl⟩ := I
  unfold wpX_remove wpY_remove
  rcases fd_jobC p v1 with ⟨j, hj, rfl, hb⟩ | hv
  · refine fd_xjob1 hj hb (br_f (by decide) (nm_r (fd_rm_i p h3 j hj) ?_))
    refine fd_yis1 hj hb (br_f (by decide) ⟨vp_in_nI hj (by omega), ?_⟩)
    refine nm_r (e' := fd_th (fd_rm p j)) (by rw [nI_clamp (n := j) (by omega), fd_n0, fd_th_rm h3 hj]) ?_
    exact ⟨rfl, fd_rel h1 h2 (fd_rm_lt p h3 j hj) h4 h5⟩
  · exact fd_xjob0 hv (br_t rfl (fd_yis0 hv (br_t rfl ⟨rfl, fd_rel h1 h2 h3 h4 h5⟩)))
theorem i_vc_setTime {k : Nat} {u : SX} {v : SY} (I : i_Rel k u v) (hk : k + 4 ≤ 2049) (v1 : Int32) (v2 : Int32) (v3 : Int32) : wpX_setTime (fun r u' => wpY_setTime (fun r' v' => r' = r ∧ i_Rel (k + 4) u' v') v v1 v2 v3) u v1 v2 v3 := by
  obtain ⟨w, p, n, al, mu, mb, on, h1, h2, h3, h4, h5, rfl, rfl⟩ := I
  have R := fd_rel (k := k + 4) (al := al) (mu := mu) (mb := mb) (on := on) h1 h2 h3 h4 h5
  unfold wpX_setTime
  rcases fd_jobC p v1 with ⟨j, hj, rfl, hb⟩ | hv
  · refine fd_xjob1 hj hb (br_f (by decide) ?_)
    rcases fd_maC h2 v2 with ⟨m, hm, rfl⟩ | hv
    · refine fd_xma1 hm h2 (br_f (by decide) ?_)
      by_cases t0 : v3 < 0
      · refine fd_xt0 (Or.inl t0) (br_t rfl ?_)
        unfold wpY_setTime
        exact fd_yis1 hj hb (br_f (by decide) (fd_yma1 hm h2 (br_f (by decide) (br_t t0 ⟨rfl, R⟩))))
      by_cases t1 : 15 < v3
      · refine fd_xt0 (Or.inr t1) (br_t rfl ?_)
        unfold wpY_setTime
        exact fd_yis1 hj hb (br_f (by decide) (fd_yma1 hm h2 (br_f (by decide) (br_f t0 (br_f (Int32.not_le.mpr t1) ⟨rfl, R⟩)))))
      refine fd_xt1 t0 t1 (br_f (by decide) ?_)
      obtain ⟨t, ht, rfl⟩ := fd_tN t0 t1
      have hz2 : ∀ j' c, w ≤ c → c < 3 → fd_up n (4 * j + m) t (4 * j' + c) = 0 := by
        intro j' c g1 g2
        unfold fd_up
        rw [if_neg (by omega)]
        exact h5 j' c g1 g2
      have R2 := fd_rel (k := k + 4) (al := al) (mu := mu) (mb := mb) (on := on) h1 h2 h3 (fd_up_le h4 ht (k := 4 * j + m)) hz2
      have go : fd_up n (4 * j + m) t (4 * j) + fd_up n (4 * j + m) t (4 * j + 1) + fd_up n (4 * j + m) t (4 * j + 2) ≠ 0 → wX_setTime_40 (fun r u' => wpY_setTime (fun r' v' => r' = r ∧ i_Rel (k + 4) u' v') (nI w, al, mu, mb, fd_th p, fd_ti n, on) (nI j) (nI m) (nI t)) (nI j) (nI m) (nI t) (nI w) (((1 : Int32) <<< (nI w &&& 31)) - 1) (nI p) (fd_ti n) := by
        intro hs
        unfold wX_setTime_40
        rw [fd_ixA]
        refine ⟨vp_in_nI (by omega) (by omega), ?_⟩
        refine nm_r (e' := fd_ti (fd_up n (4 * j + m) t)) (by rw [nI_clamp (n := 4 * j + m) (by omega), fd_ti_up]) ?_
        exact fd_yst h4 hj hb hm h2 ht (fun z => absurd z hs) (fun _ => ⟨rfl, R2⟩)
      by_cases tz : t = 0
      · refine br_t (by rw [tz]; exact nI_0) ?_
        subst tz
        refine fd_xcb h4 h2 hj hm ?_
        cases hc : fd_cb n j m w with
        | false => exact br_t rfl (fd_yst h4 hj hb hm h2 ht (fun _ => ⟨rfl, R⟩) (fun z => absurd ((fd_cbs h1 h2 hm h5).mp hc) z))
        | true => exact br_f (by decide) (go (fun z => absurd (hc.symm.trans ((fd_cbs h1 h2 hm h5).mpr z)) (by decide)))
      · exact br_f (nI_ne0 (by omega) (by omega)) (go (fd_pos (by omega) tz))
    · refine fd_xma0 h2 hv (br_t rfl ?_)
      unfold wpY_setTime
      exact fd_yis1 hj hb (br_f (by decide) (fd_yma0 h2 hv (br_t rfl ⟨rfl, R⟩)))
  · refine fd_xjob0 hv (br_t rfl ?_)
    unfold wpY_setTime
    exact fd_yis0 hv (br_t rfl ⟨rfl, R⟩)
theorem i_vc_jobs {k : Nat} {u : SX} {v : SY} (I : i_Rel k u v) (hk : k + 4 ≤ 2049) : wpX_jobs (fun r => wpY_jobs (fun r' => r' = r ∧ i_Rel (k + 4) u v) v) u := by
  obtain ⟨w, p, n, al, mu, mb, on, h1, h2, h3, h4, h5, rfl, rfl⟩ := I
  unfold wpX_jobs wpY_jobs
  exact ⟨5 + 1, fd_yjL ⟨fd_js5 p h3, fd_rel h1 h2 h3 h4 h5⟩ 5 0 rfl⟩
theorem i_vc_time {k : Nat} {u : SX} {v : SY} (I : i_Rel k u v) (hk : k + 4 ≤ 2049) (v1 : Int32) (v2 : Int32) : wpX_time (fun r => wpY_time (fun r' => r' = r ∧ i_Rel (k + 4) u v) v v1 v2) u v1 v2 := by
  obtain ⟨w, p, n, al, mu, mb, on, h1, h2, h3, h4, h5, rfl, rfl⟩ := I
  have R := fd_rel (k := k + 4) (al := al) (mu := mu) (mb := mb) (on := on) h1 h2 h3 h4 h5
  unfold wpX_time wpY_time
  rcases fd_jobC p v1 with ⟨j, hj, rfl, hb⟩ | hv
  · rcases fd_maC h2 v2 with ⟨m, hm, rfl⟩ | hv
    · refine fd_xjob1 hj hb (br_f (by decide) (fd_xma1 hm h2 (br_f (by decide) ?_)))
      rw [fd_ixA]
      refine ⟨vp_in_nI (by omega) (by omega), ?_⟩
      refine fd_yis1 hj hb (br_f (by decide) (fd_yma1 hm h2 (br_f (by decide) ?_)))
      rw [fd_ixB]
      exact ⟨vp_in_nI (by omega) (by omega), rfl, R⟩
    · exact fd_xjob1 hj hb (br_f (by decide) (fd_xma0 h2 hv (br_t rfl (fd_yis1 hj hb (br_f (by decide) (fd_yma0 h2 hv (br_t rfl ⟨rfl, R⟩)))))))
  · exact fd_xjob0 hv (br_t rfl (fd_yis0 hv (br_t rfl ⟨rfl, R⟩)))
theorem i_vc_least {k : Nat} {u : SX} {v : SY} (I : i_Rel k u v) (hk : k + 4 ≤ 2049) : wpX_least (fun r => wpY_least (fun r' v' => r' = r ∧ i_Rel (k + 4) u v') v) u := by
  obtain ⟨w, p, n, al, mu, mb, on, h1, h2, h3, h4, h5, rfl, rfl⟩ := I
  unfold wpX_least
  refine fd_xoo h4 ?_
  refine fd_xlt h4 (fd_mk0 n _ 0) ?_
  unfold wpY_least wpY_all
  refine fd_ylo h4 ?_
  intro on1
  exact ⟨rfl, fd_rel h1 h2 h3 h4 h5⟩
theorem i_vc_machineOf {k : Nat} {u : SX} {v : SY} (I : i_Rel k u v) (hk : k + 4 ≤ 2049) (v1 : Int32) : wpX_machineOf (fun r => wpY_machineOf (fun r' v' => r' = r ∧ i_Rel (k + 4) u v') v v1) u v1 := by
  obtain ⟨w, p, n, al, mu, mb, on, h1, h2, h3, h4, h5, rfl, rfl⟩ := I
  unfold wpX_machineOf wpY_machineOf
  rcases fd_jobC p v1 with ⟨j, hj, rfl, hb⟩ | hv
  · refine fd_xjob1 hj hb (br_f (by decide) ?_)
    refine fd_xoo h4 ?_
    refine fd_xfp h4 (fd_mk0 n _ 0) ?_
    refine fd_xmi fd_gd_pv hj ?_
    refine fd_ypl h4 ?_
    intro on1 hon
    refine fd_yis1 hj hb (br_f (by decide) ⟨vp_in_nI hj (by omega), ?_⟩)
    rw [nI_clamp (n := j) (by omega), hon j hj]
    exact ⟨rfl, fd_rel h1 h2 h3 h4 h5⟩
  · refine fd_xjob0 hv (br_t rfl ?_)
    refine fd_ypl h4 ?_
    intro on1 hon
    exact fd_yis0 hv (br_t rfl ⟨rfl, fd_rel h1 h2 h3 h4 h5⟩)
theorem i_vc_finishOf {k : Nat} {u : SX} {v : SY} (I : i_Rel k u v) (hk : k + 4 ≤ 2049) (v1 : Int32) : wpX_finishOf (fun r => wpY_finishOf (fun r' v' => r' = r ∧ i_Rel (k + 4) u v') v v1) u v1 := by
  obtain ⟨w, p, n, al, mu, mb, on, h1, h2, h3, h4, h5, rfl, rfl⟩ := I
  unfold wpX_finishOf wpY_finishOf
  rcases fd_jobC p v1 with ⟨j, hj, rfl, hb⟩ | hv
  · refine fd_xjob1 hj hb (br_f (by decide) ?_)
    refine fd_xoo h4 ?_
    refine fd_xfp h4 (fd_mk0 n _ 0) ?_
    refine fd_xfin fd_gd_pv h4 hj ?_
    refine fd_ypl h4 ?_
    intro on1 hon
    refine fd_yis1 hj hb (br_f (by decide) ?_)
    refine fd_yfin h4 hj hon ?_
    exact ⟨rfl, fd_rel h1 h2 h3 h4 h5⟩
  · refine fd_xjob0 hv (br_t rfl ?_)
    refine fd_ypl h4 ?_
    intro on1 hon
    exact fd_yis0 hv (br_t rfl ⟨rfl, fd_rel h1 h2 h3 h4 h5⟩)
theorem i_vc_leastWith {k : Nat} {u : SX} {v : SY} (I : i_Rel k u v) (hk : k + 4 ≤ 2049) (v1 : Int32) (v2 : Int32) : wpX_leastWith (fun r => wpY_leastWith (fun r' v' => r' = r ∧ i_Rel (k + 4) u v') v v1 v2) u v1 v2 := by
  obtain ⟨w, p, n, al, mu, mb, on, h1, h2, h3, h4, h5, rfl, rfl⟩ := I
  have R := fd_rel (k := k + 4) (al := al) (mu := mu) (mb := mb) (on := on) h1 h2 h3 h4 h5
  unfold wpX_leastWith
  rcases fd_jobC p v1 with ⟨j, hj, rfl, hb⟩ | hv
  · rcases fd_maC h2 v2 with ⟨m, hm, rfl⟩ | hv
    · refine fd_xjob1 hj hb (br_f (by decide) (fd_xma1 hm h2 (br_f (by decide) ?_)))
      refine fd_xoo h4 ?_
      unfold wpX_optionsOfJob wpX_optionBit
      rw [fd_mulA, nI_add]
      refine nm_e ?_
      refine fd_xlt h4 (fd_mkW n _ hj (by omega)) ?_
      unfold wpY_leastWith
      refine fd_yis1 hj hb (br_f (by decide) (fd_yma1 hm h2 (br_f (by decide) ?_)))
      unfold wpY_all
      refine fd_ylo h4 ?_
      intro on1
      exact ⟨rfl, fd_rel h1 h2 h3 h4 h5⟩
    · refine fd_xjob1 hj hb (br_f (by decide) (fd_xma0 h2 hv (br_t rfl ?_)))
      unfold wpY_leastWith
      exact fd_yis1 hj hb (br_f (by decide) (fd_yma0 h2 hv (br_t rfl ⟨rfl, R⟩)))
  · refine fd_xjob0 hv (br_t rfl ?_)
    unfold wpY_leastWith
    exact fd_yis0 hv (br_t rfl ⟨rfl, R⟩)
theorem i_vc_leastWithout {k : Nat} {u : SX} {v : SY} (I : i_Rel k u v) (hk : k + 4 ≤ 2049) (v1 : Int32) : wpX_leastWithout (fun r => wpY_leastWithout (fun r' v' => r' = r ∧ i_Rel (k + 4) u v') v v1) u v1 := by
  obtain ⟨w, p, n, al, mu, mb, on, h1, h2, h3, h4, h5, rfl, rfl⟩ := I
  have R := fd_rel (k := k + 4) (al := al) (mu := mu) (mb := mb) (on := on) h1 h2 h3 h4 h5
  unfold wpX_leastWithout
  rcases fd_jobC p v1 with ⟨j, hj, rfl, hb⟩ | hv
  · refine fd_xjob1 hj hb (br_f (by decide) ?_)
    refine fd_xoo h4 ?_
    rw [fd_rm_i p h3 j hj]
    refine fd_xlt h4 (fd_mk0 n _ 0) ?_
    unfold wpY_leastWithout
    refine fd_yis1 hj hb (br_f (by decide) ⟨vp_in_nI hj (by omega), ?_⟩)
    refine nm_r (e' := fd_th (fd_rm p j)) (by rw [nI_clamp (n := j) (by omega), fd_n0, fd_th_rm h3 hj]) ?_
    unfold wpY_all
    refine fd_ylo h4 ?_
    intro on1
    refine ⟨vp_in_nI hj (by omega), ?_⟩
    refine nm_r (e' := fd_th p) (by rw [nI_clamp (n := j) (by omega), fd_n1, fd_th_ad (fd_rm_lt p h3 j hj) hj, fd_ra p h3 j hj hb]) ?_
    exact ⟨rfl, fd_rel h1 h2 h3 h4 h5⟩
  · refine fd_xjob0 hv (br_t rfl ?_)
    unfold wpY_leastWithout
    exact fd_yis0 hv (br_t rfl ⟨rfl, R⟩)
theorem i_vc_leastDoubled {k : Nat} {u : SX} {v : SY} (I : i_Rel k u v) (hk : k + 4 ≤ 2049) (v1 : Int32) : wpX_leastDoubled (fun r u' => wpY_leastDoubled (fun r' v' => r' = r ∧ i_Rel (k + 4) u' v') v v1) u v1 := by
  obtain ⟨w, p, n, al, mu, mb, on, h1, h2, h3, h4, h5, rfl, rfl⟩ := I
  have R := fd_rel (k := k + 4) (al := al) (mu := mu) (mb := mb) (on := on) h1 h2 h3 h4 h5
  unfold wpX_leastDoubled
  rcases fd_maC h2 v1 with ⟨m, hm, rfl⟩ | hv
  · have h4' := fd_cp_le h4 m 5
    refine fd_xma1 hm h2 (br_f (by decide) ?_)
    refine fd_xcp (by omega) ?_
    refine fd_xoo h4' ?_
    refine fd_xlt h4' (fd_mk0 _ _ 0) ?_
    unfold wpY_leastDoubled
    refine fd_yma1 hm h2 (br_f (by decide) ⟨5 + 1, fd_ycpL (by omega) ?_ 5 0 rfl⟩)
    unfold wpY_all
    refine fd_ylo h4' ?_
    intro on1
    exact ⟨rfl, fd_rel h1 h2 h3 h4' (fd_cp_z m h5 5)⟩
  · refine fd_xma0 h2 hv (br_t rfl ?_)
    unfold wpY_leastDoubled
    exact fd_yma0 h2 hv (br_t rfl ⟨rfl, R⟩)
theorem i_vc_leastIdle {k : Nat} {u : SX} {v : SY} (I : i_Rel k u v) (hk : k + 4 ≤ 2049) (v1 : Int32) : wpX_leastIdle (fun r => wpY_leastIdle (fun r' v' => r' = r ∧ i_Rel (k + 4) u v') v v1) u v1 := by
  obtain ⟨w, p, n, al, mu, mb, on, h1, h2, h3, h4, h5, rfl, rfl⟩ := I
  have R := fd_rel (k := k + 4) (al := al) (mu := mu) (mb := mb) (on := on) h1 h2 h3 h4 h5
  unfold wpX_leastIdle
  rcases fd_maC h2 v1 with ⟨m, hm, rfl⟩ | hv
  · refine fd_xma1 hm h2 (br_f (by decide) ?_)
    refine fd_xoo h4 ?_
    refine fd_xlt h4 (fd_mk0 n _ 0) ?_
    unfold wpY_leastIdle
    refine fd_yma1 hm h2 (br_f (by decide) ?_)
    unfold wpY_all
    refine fd_ylo h4 ?_
    intro on1
    exact ⟨rfl, fd_rel h1 h2 h3 h4 h5⟩
  · refine fd_xma0 h2 hv (br_t rfl ?_)
    unfold wpY_leastIdle
    exact fd_yma0 h2 hv (br_t rfl ⟨rfl, R⟩)
theorem i_vc_mostJobs {k : Nat} {u : SX} {v : SY} (I : i_Rel k u v) (hk : k + 4 ≤ 2049) (v1 : Int32) : wpX_mostJobs (fun r => wpY_mostJobs (fun r' v' => r' = r ∧ i_Rel (k + 4) u v') v v1) u v1 := by
  obtain ⟨w, p, n, al, mu, mb, on, h1, h2, h3, h4, h5, rfl, rfl⟩ := I
  have R := fd_rel (k := k + 4) (al := al) (mu := mu) (mb := mb) (on := on) h1 h2 h3 h4 h5
  unfold wpX_mostJobs
  rcases fd_maC h2 v1 with ⟨m, hm, rfl⟩ | hv
  · refine fd_xma1 hm h2 (br_f (by decide) ?_)
    refine fd_xoo h4 ?_
    refine fd_xlt h4 (fd_mk0 n _ 0) ?_
    refine ⟨1024 + 1, fd_xmjL h4 (fd_mk0 n _ 0) (by omega) ?_ 1024 0 rfl⟩
    unfold wpY_mostJobs
    refine fd_yma1 hm h2 (br_f (by decide) ?_)
    unfold wpY_all
    refine fd_ylo h4 ?_
    intro on1
    refine ⟨1024 + 1, fd_ymjL h4 (by omega) ?_ 1024 0 on1 rfl⟩
    intro on2
    exact ⟨rfl, fd_rel h1 h2 h3 h4 h5⟩
  · refine fd_xma0 h2 hv (br_t rfl ?_)
    unfold wpY_mostJobs
    exact fd_yma0 h2 hv (br_t rfl ⟨rfl, R⟩)
