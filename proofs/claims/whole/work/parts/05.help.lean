/-! the tests of a job's and a machine's number, the small loops of both sides -/
def fd_NJ (p : Nat) (v : Int32) : Prop := v < 0 ∨ nI 5 ≤ v ∨ ∃ j, j < 5 ∧ v = nI j ∧ p.testBit j = false
theorem fd_jobC (p : Nat) (v : Int32) : (∃ j, j < 5 ∧ v = nI j ∧ p.testBit j = true) ∨ fd_NJ p v := by
  rcases pk_ix v (n := 5) (by decide) with h | h | ⟨j, hj, e⟩
  · exact Or.inr (Or.inl h)
  · exact Or.inr (Or.inr (Or.inl h))
  · cases hb : p.testBit j with
    | false => exact Or.inr (Or.inr (Or.inr ⟨j, hj, e, hb⟩))
    | true => exact Or.inl ⟨j, hj, e, hb⟩
def fd_NM (w : Nat) (v : Int32) : Prop := v < 0 ∨ nI w ≤ v
theorem fd_maC {w : Nat} (hw : w ≤ 3) (v : Int32) : (∃ m, m < w ∧ v = nI m) ∨ fd_NM w v := by
  rcases pk_ix v (n := w) (by omega) with h | h | ⟨j, hj, e⟩
  · exact Or.inr (Or.inl h)
  · exact Or.inr (Or.inr h)
  · exact Or.inl ⟨j, hj, e⟩
theorem fd_nn {w : Nat} {v : Int32} (hw : w < 2 ^ 31) (h : nI w ≤ v) : ¬ v < 0 := Int32.not_lt.mpr (Int32.le_trans (nI_pos' hw) h)
section
variable {fm fe fp cr al mu mb : Int32} {a th ti on : Nat → Int32} {n : Nat → Nat} {p w : Nat}

theorem fd_xjob1 {post : Int32 → Prop} {j : Nat} (hj : j < 5) (hb : p.testBit j = true) (h : post 1) : wpX_isJob post (fm, fe, nI p, a) (nI j) := by
  unfold wpX_isJob
  refine br_f (nI_pos (by omega)) (br_f (lt5' j hj) ?_)
  refine fd_xhasN p (by omega) ?_
  rw [hb]
  exact br_f (by decide) h
theorem fd_xjob0 {post : Int32 → Prop} {v : Int32} (hv : fd_NJ p v) (h : post 0) : wpX_isJob post (fm, fe, nI p, a) v := by
  unfold wpX_isJob
  rcases hv with h1 | h1 | ⟨j, hj, rfl, hb⟩
  · exact br_t h1 h
  · exact br_f (fd_nn (by decide) h1) (br_t h1 h)
  · refine br_f (nI_pos (by omega)) (br_f (lt5' j hj) ?_)
    refine fd_xhasN p (by omega) ?_
    rw [hb]
    exact br_t rfl h
theorem fd_yis1 {post : Int32 → Prop} {j : Nat} (hj : j < 5) (hb : p.testBit j = true) (h : post 1) : wpY_is post (cr, al, mu, mb, fd_th p, ti, on) (nI j) := by
  unfold wpY_is
  refine br_f (nI_pos (by omega)) (br_f (lt5' j hj) ⟨vp_in_nI hj (by omega), ?_⟩)
  rw [fd_thc p (by omega), hb]
  exact br_f (by decide) h
theorem fd_yis0 {post : Int32 → Prop} {v : Int32} (hv : fd_NJ p v) (h : post 0) : wpY_is post (cr, al, mu, mb, fd_th p, ti, on) v := by
  unfold wpY_is
  rcases hv with h1 | h1 | ⟨j, hj, rfl, hb⟩
  · exact br_t h1 h
  · exact br_f (fd_nn (by decide) h1) (br_t h1 h)
  · refine br_f (nI_pos (by omega)) (br_f (lt5' j hj) ⟨vp_in_nI hj (by omega), ?_⟩)
    rw [fd_thc p (by omega), hb]
    exact br_t rfl h
theorem fd_xma1 {post : Int32 → Prop} {m : Nat} (hm : m < w) (hw : w ≤ 3) (h : post 1) : wpX_isMachine post (nI w, fe, fp, a) (nI m) := by
  unfold wpX_isMachine
  exact br_f (nI_pos (by omega)) (br_f (nI_ge hm (by omega)) h)
theorem fd_xma0 {post : Int32 → Prop} {v : Int32} (hw : w ≤ 3) (hv : fd_NM w v) (h : post 0) : wpX_isMachine post (nI w, fe, fp, a) v := by
  unfold wpX_isMachine
  rcases hv with h1 | h1
  · exact br_t h1 h
  · exact br_f (fd_nn (by omega) h1) (br_t h1 h)
theorem fd_yma1 {post : Int32 → Prop} {m : Nat} (hm : m < w) (hw : w ≤ 3) (h : post 1) : wpY_machine post (nI w, al, mu, mb, th, ti, on) (nI m) := by
  unfold wpY_machine
  exact br_f (nI_pos (by omega)) (br_f (nI_ge hm (by omega)) h)
theorem fd_yma0 {post : Int32 → Prop} {v : Int32} (hw : w ≤ 3) (hv : fd_NM w v) (h : post 0) : wpY_machine post (nI w, al, mu, mb, th, ti, on) v := by
  unfold wpY_machine
  rcases hv with h1 | h1
  · exact br_t h1 h
  · exact br_f (fd_nn (by omega) h1) (br_t h1 h)

/-! jobs -/
def fd_js (p : Nat) : Nat → Int32
  | 0 => 0
  | k + 1 => if p.testBit k = true then fd_js p k ||| ((1 : Int32) <<< (nI k &&& 31)) else fd_js p k
theorem fd_js5 : ∀ p, p < 32 → fd_js p 5 = nI p := by decide +kernel
theorem fd_yjL {post : Int32 → Prop} (h : post (fd_js p 5)) : ∀ d i, i + d = 5 → wY_jobs_4 post cr al mu mb (fd_th p) ti on (d + 1) (fd_js p i) (nI i) := by
  intro d
  induction d with
  | zero =>
    intro i hi
    have e : i = 5 := by omega
    subst e
    exact br_t (by decide) h
  | succ d ih =>
    intro i hi
    have hi5 : i < 5 := by omega
    have k := ih (i + 1) (by omega)
    rw [fd_js] at k
    refine br_f (lt5' i hi5) ⟨vp_in_nI hi5 (by omega), ?_⟩
    rw [fd_thc p (by omega)]
    cases hb : p.testBit i with
    | false =>
      rw [hb, if_neg (by decide)] at k
      exact br_t rfl (nm_r (Int32.or_zero) (nm_r (nI_1 i) k))
    | true =>
      rw [hb, if_pos rfl] at k
      exact br_f (by decide) (nm_e (nm_r (nI_1 i) k))

/-! the further machine -/
def fd_cp (n : Nat → Nat) (m : Nat) : Nat → (Nat → Nat)
  | 0 => n
  | k + 1 => fd_up (fd_cp n m k) (4 * k + 3) (fd_cp n m k (4 * k + m))
theorem fd_cp_le (hn : ∀ i, n i ≤ 15) (m : Nat) : ∀ k i, fd_cp n m k i ≤ 15 := by
  intro k
  induction k with
  | zero => exact hn
  | succ k ih => exact fd_up_le ih (ih _)
theorem fd_cp_z (m : Nat) (hz : ∀ j c, w ≤ c → c < 3 → n (4 * j + c) = 0) : ∀ k j c, w ≤ c → c < 3 → fd_cp n m k (4 * j + c) = 0 := by
  intro k
  induction k with
  | zero => exact hz
  | succ k ih =>
    intro j c h1 h2
    show fd_up (fd_cp n m k) (4 * k + 3) (fd_cp n m k (4 * k + m)) (4 * j + c) = 0
    unfold fd_up
    rw [if_neg (by omega)]
    exact ih j c h1 h2
theorem fd_xcpL {post : SX → Prop} {m : Nat} (hm : m < 4) (h : post (fm, fe, fp, fd_ti (fd_cp n m 5))) : ∀ d i, i + d = 5 → wX_copyToSpare_2 post (nI m) fm fe fp (d + 1) (nI i) (fd_ti (fd_cp n m i)) := by
  intro d
  induction d with
  | zero =>
    intro i hi
    have e : i = 5 := by omega
    subst e
    exact br_t (by decide) h
  | succ d ih =>
    intro i hi
    have hi5 : i < 5 := by omega
    have k := ih (i + 1) (by omega)
    have e3 : nI i * 4 + 3 = nI (4 * i + 3) := fd_ixA i 3
    refine br_f (lt5' i hi5) ?_
    rw [fd_ixA, e3]
    refine ⟨vp_in_nI (by omega) (by omega), vp_in_nI (by omega) (by omega), ?_⟩
    refine nm_r (e' := fd_ti (fd_cp n m (i + 1))) ?_ (nm_r (nI_1 i) k)
    rw [fd_tic _ (by omega), nI_clamp (n := 4 * i + 3) (by omega), fd_ti_up]
    rfl
theorem fd_xcp {post : SX → Prop} {m : Nat} (hm : m < 4) (h : post (fm, fe, fp, fd_ti (fd_cp n m 5))) : wpX_copyToSpare post (fm, fe, fp, fd_ti n) (nI m) :=
  ⟨5 + 1, fd_xcpL hm h 5 0 rfl⟩
theorem fd_ycpL {post : Int32 → SY → Prop} {m : Nat} (hm : m < 4)
    (h : wpY_all (fun r_11 => (wpY_leastOf (fun r_19 u => match u with | (c0, c1, c2, c3, c4, c5, c6) => (post r_19 (c0, c1, c2, c3, c4, c5, c6))) (cr, al, mu, mb, th, fd_ti (fd_cp n m 5), on) (r_11 ||| 8) (-1) 0)) (cr, al, mu, mb, th, fd_ti (fd_cp n m 5), on)) :
    ∀ d i, i + d = 5 → wY_leastDoubled_12 post (nI m) cr al mu mb (d + 1) (nI i) th (fd_ti (fd_cp n m i)) on := by
  intro d
  induction d with
  | zero =>
    intro i hi
    have e : i = 5 := by omega
    subst e
    exact br_t (by decide) h
  | succ d ih =>
    intro i hi
    have hi5 : i < 5 := by omega
    have k := ih (i + 1) (by omega)
    have e3 : 4 * nI i + 3 = nI (4 * i + 3) := fd_ixB i 3
    refine br_f (lt5' i hi5) ?_
    rw [fd_ixB, e3]
    refine ⟨vp_in_nI (by omega) (by omega), vp_in_nI (by omega) (by omega), ?_⟩
    refine nm_r (e' := fd_ti (fd_cp n m (i + 1))) ?_ (nm_r (nI_1 i) k)
    rw [fd_tic _ (by omega), nI_clamp (n := 4 * i + 3) (by omega), fd_ti_up]
    rfl

/-! the least free number -/
def fd_fr (p : Nat) : Nat := if p.testBit 0 = false then 0 else if p.testBit 1 = false then 1 else if p.testBit 2 = false then 2 else if p.testBit 3 = false then 3 else if p.testBit 4 = false then 4 else 5
theorem fd_fr_le : ∀ p, p < 32 → fd_fr p ≤ 5 := by decide +kernel
theorem fd_fr_b : ∀ p, p < 32 → ∀ i, i < 5 → i < fd_fr p → p.testBit i = true := by decide +kernel
theorem fd_fr_f : ∀ p, p < 32 → fd_fr p < 5 → p.testBit (fd_fr p) = false := by decide +kernel
theorem fd_xfrL {post : Int32 → Prop} (hp : p < 32) (h : post (nI (fd_fr p))) : ∀ d i, i + d = fd_fr p → wX_leastFreeNumber_2 post fm fe (nI p) a (d + 1) (nI i) := by
  have h5 := fd_fr_le p hp
  intro d
  induction d with
  | zero =>
    intro i hi
    have e : i = fd_fr p := hi
    rcases Nat.lt_or_ge i 5 with h1 | h1
    · refine br_f (lt5' i h1) ?_
      refine fd_xhasN p (by omega) ?_
      rw [e, fd_fr_f p hp (by omega)]
      exact br_t rfl h
    · have e2 : i = 5 := by omega
      rw [← e, e2] at h
      rw [e2]
      exact br_t (by decide) h
  | succ d ih =>
    intro i hi
    have h1 : i < 5 := by omega
    refine br_f (lt5' i h1) ?_
    refine fd_xhasN p (by omega) ?_
    rw [fd_fr_b p hp i h1 (by omega)]
    exact br_f (by decide) (nm_r (nI_1 i) (ih (i + 1) (by omega)))
theorem fd_xfr {post : Int32 → Prop} (hp : p < 32) (h : post (nI (fd_fr p))) : wpX_leastFreeNumber post (fm, fe, nI p, a) :=
  ⟨fd_fr p + 1, fd_xfrL hp h (fd_fr p) 0 (Nat.zero_add _)⟩

/-! another machine can do it -/
def fd_cb (n : Nat → Nat) (j m : Nat) : Nat → Bool
  | 0 => false
  | k + 1 => fd_cb n j m k || (decide (k ≠ m) && decide (n (4 * j + k) ≠ 0))
theorem fd_cb_t {j m k : Nat} (h : fd_cb n j m k = true) (d : Nat) : fd_cb n j m (k + d) = true := by
  induction d with
  | zero => exact h
  | succ d ih =>
    show (fd_cb n j m (k + d) || _) = true
    rw [ih, Bool.true_or]
theorem fd_xcbL {post : Int32 → Prop} {j m : Nat} (hn : ∀ i, n i ≤ 15) (hw : w ≤ 3) (hj : j < 5) (hm : m < w) (h : post (fd_b (fd_cb n j m w))) :
    ∀ d i, i + d = w → fd_cb n j m i = false → wX_canBeDoneElsewhere_2 post (nI j) (nI m) (nI w) fe fp (fd_ti n) (d + 1) (nI i) := by
  intro d
  induction d with
  | zero =>
    intro i hi hc
    have e : i = w := hi
    subst e
    rw [hc] at h
    exact br_t (nI_le (Nat.le_refl _) (by omega)) h
  | succ d ih =>
    intro i hi hc
    have hi3 : i < 3 := by omega
    have hn1 := hn (4 * j + i)
    have hs : fd_cb n j m (i + 1) = (decide (i ≠ m) && decide (n (4 * j + i) ≠ 0)) := by
      show (fd_cb n j m i || _) = _
      rw [hc, Bool.false_or]
    refine br_f (nI_ge (by omega) (by omega)) ?_
    by_cases him : i = m
    · refine br_t (by rw [him]) (nm_r (nI_1 i) ?_)
      refine ih (i + 1) (by omega) ?_
      rw [hs]
      simp [him]
    · refine br_f (fd_ne (by omega) (by omega) him) ?_
      rw [fd_ixA]
      refine ⟨vp_in_nI (by omega) (by omega), ?_⟩
      rw [fd_tic n (by omega)]
      by_cases h0 : n (4 * j + i) = 0
      · refine br_t (by rw [h0]; exact nI_0) (nm_r (nI_1 i) ?_)
        refine ih (i + 1) (by omega) ?_
        rw [hs]
        simp [h0]
      · refine br_f (nI_ne0 (by omega) (by omega)) ?_
        have ht : fd_cb n j m (i + 1) = true := by
          rw [hs]
          simp [h0, him]
        have hw2 := fd_cb_t ht d
        rw [show i + 1 + d = w by omega] at hw2
        rw [hw2] at h
        exact h
theorem fd_xcb {post : Int32 → Prop} {j m : Nat} (hn : ∀ i, n i ≤ 15) (hw : w ≤ 3) (hj : j < 5) (hm : m < w) (h : post (fd_b (fd_cb n j m w))) : wpX_canBeDoneElsewhere post (nI w, fe, fp, fd_ti n) (nI j) (nI m) :=
  ⟨w + 1, fd_xcbL hn hw hj hm h w 0 (Nat.zero_add _) rfl⟩

/-! the reference's plan -/
theorem fd_ypl {post : SY → Prop} (hn : ∀ i, n i ≤ 15)
    (h : ∀ on : Nat → Int32, (∀ k, k < 5 → on k = nI (fd_dg (fd_gd (fd_bo (fd_T n p) (fd_P (fd_op n (((1 : Int32) <<< (cr &&& 31)) - 1) (-1) 0) p) 1024)) k)) → post (cr, ((1 : Int32) <<< (cr &&& 31)) - 1, -1, 0, fd_th p, fd_ti n, on)) :
    wpY_plan post (cr, al, mu, mb, fd_th p, fd_ti n, on) := by
  unfold wpY_plan wpY_all
  refine fd_ylo hn ?_
  intro on1
  exact ⟨_, fd_yplL hn h _ 0 on1 (Nat.zero_add _)⟩
end
