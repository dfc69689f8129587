/-! the pure picture: digits of a plan, finishing times, totals, the first least plan -/
def fd_b (b : Bool) : Int32 := if b = true then 1 else 0
theorem fd_b_t : fd_b true = 1 := rfl
theorem fd_b_f : fd_b false = 0 := rfl
theorem fd_b0 : ∀ b : Bool, (fd_b b = 0) = (b = false) := by
  intro b; cases b
  · exact propext ⟨fun _ => rfl, fun _ => rfl⟩
  · exact propext ⟨fun h => absurd h (by decide), fun h => absurd h (by decide)⟩
theorem fd_b1 : ∀ b : Bool, (fd_b b = 1) = (b = true) := by
  intro b; cases b
  · exact propext ⟨fun h => absurd h (by decide), fun h => absurd h (by decide)⟩
  · exact propext ⟨fun _ => rfl, fun _ => rfl⟩
theorem fd_bit1 : ∀ i, i < 32 → bt 1 i = decide (i = 0) := by decide +kernel
theorem fd_has (x : Int32) {i : Nat} (hi : i < 32) : (x >>> (nI i &&& 31)) &&& 1 = fd_b (bt x i) := by
  apply b_ext
  intro k hk
  rw [b_and, b_sshr i hi x hk, fd_bit1 k hk]
  by_cases h0 : k = 0
  · subst h0
    rw [if_pos (by omega : i + 0 < 32), Nat.add_zero]
    cases bt x i
    · simp [fd_b, b_0]
    · simp [fd_b, fd_bit1]
  · rw [decide_eq_false h0, Bool.and_false]
    cases bt x i
    · rw [fd_b_f, b_0]
    · rw [fd_b_t, fd_bit1 k hk, decide_eq_false h0]
theorem fd_btN (p : Nat) {i : Nat} (hi : i < 32) : bt (nI p) i = p.testBit i := by
  show (BitVec.ofNat 32 p).getLsbD i = _
  rw [BitVec.getLsbD_ofNat, decide_eq_true hi, Bool.true_and]
theorem fd_hasN (p : Nat) {i : Nat} (hi : i < 32) : (nI p >>> (nI i &&& 31)) &&& 1 = fd_b (p.testBit i) := by
  rw [fd_has _ hi, fd_btN p hi]

def fd_dg (c j : Nat) : Nat := c / 4 ^ (4 - j) % 4
theorem fd_dg_lt (c j : Nat) : fd_dg c j < 4 := Nat.mod_lt _ (by decide)
def fd_PV (x : Int32) (c : Nat) : Prop := ∀ j, j < 5 → (x >>> ((2 * (4 - nI j)) &&& 31)) &&& 3 = nI (fd_dg c j)
theorem fd_sh1 : ∀ j, j < 5 → (((2 * (4 - nI j)) &&& 31).toBitVec.smod 32).toNat = 2 * (4 - j) := by decide +kernel
theorem fd_sh2 : ∀ j, j < 5 → 8 - 2 * nI j = 2 * (4 - nI j) := by decide +kernel
theorem fd_pv {c : Nat} (hc : c < 1024) : fd_PV (nI c) c := by
  intro j hj
  rw [pk_shrN (n := c) (by omega) _ (2 * (4 - j)) (fd_sh1 j hj), pk_andN (n := c / 2 ^ (2 * (4 - j))) (Nat.lt_of_le_of_lt (Nat.div_le_self c _) (by omega)) 2 (by decide), Nat.pow_mul]
  rfl
theorem fd_pvm : fd_PV (-1) 1023 := by
  unfold fd_PV
  decide +kernel
theorem fd_dgY {c j : Nat} (hc : c < 1024) (hj : j < 5) : (nI c >>> ((8 - 2 * nI j) &&& 31)) &&& 3 = nI (fd_dg c j) := by
  rw [fd_sh2 j hj]
  exact fd_pv hc j hj

def fd_tm (n : Nat → Nat) (c j : Nat) : Nat := n (4 * j + fd_dg c j)
def fd_fk (n : Nat → Nat) (p c j : Nat) : Nat → Nat
  | 0 => fd_tm n c j
  | k + 1 => fd_fk n p c j k + (if p.testBit k = true ∧ k ≠ j ∧ fd_dg c k = fd_dg c j ∧ (fd_tm n c k < fd_tm n c j ∨ (fd_tm n c k = fd_tm n c j ∧ k < j)) then fd_tm n c k else 0)
def fd_tk (n : Nat → Nat) (p c : Nat) : Nat → Nat
  | 0 => 0
  | k + 1 => fd_tk n p c k + (if p.testBit k = true then fd_fk n p c k 5 else 0)
theorem fd_fk_le {n : Nat → Nat} (hn : ∀ i, n i ≤ 15) (p c j k : Nat) : fd_fk n p c j k ≤ 15 * (k + 1) := by
  induction k with
  | zero => exact hn _
  | succ k ih =>
    have h : fd_tm n c k ≤ 15 := hn _
    rw [fd_fk]
    split <;> omega
theorem fd_tk_le {n : Nat → Nat} (hn : ∀ i, n i ≤ 15) (p c k : Nat) : fd_tk n p c k ≤ 90 * k := by
  induction k with
  | zero => exact Nat.le_refl 0
  | succ k ih =>
    have h := fd_fk_le hn p c k 5
    rw [fd_tk]
    split <;> omega

def fd_ok (o : Nat → Bool) (p c j : Nat) : Bool := if p.testBit j = true then o (4 * j + fd_dg c j) else decide (fd_dg c j = 0)
def fd_ip (o : Nat → Bool) (p c : Nat) : Nat → Bool
  | 0 => true
  | k + 1 => fd_ip o p c k && fd_ok o p c k
theorem fd_ip_f {o : Nat → Bool} {p c k : Nat} (h : fd_ip o p c k = false) (d : Nat) : fd_ip o p c (k + d) = false := by
  induction d with
  | zero => exact h
  | succ d ih =>
    show (fd_ip o p c (k + d) && fd_ok o p c (k + d)) = false
    rw [ih, Bool.false_and]

def fd_bo (T : Nat → Nat) (P : Nat → Bool) : Nat → Option Nat
  | 0 => none
  | k + 1 => if P k = true then (match fd_bo T P k with
      | none => some k
      | some c => if T k < T c then some k else some c) else fd_bo T P k
theorem fd_bo_n {T : Nat → Nat} {P : Nat → Bool} : ∀ k, fd_bo T P k = none → ∀ d, d < k → P d = false := by
  intro k
  induction k with
  | zero => intro _ d hd; omega
  | succ k ih =>
    intro h d hd
    rw [fd_bo] at h
    split at h
    · split at h
      · cases h
      · split at h <;> cases h
    · rename_i hp
      rcases Nat.lt_or_ge d k with h1 | h1
      · exact ih h d h1
      · have e : d = k := by omega
        rw [e]
        cases hq : P k
        · rfl
        · exact absurd hq hp
theorem fd_bo_s {T : Nat → Nat} {P : Nat → Bool} : ∀ k c, fd_bo T P k = some c → c < k ∧ P c = true ∧ (∀ d, d < k → P d = true → T c ≤ T d) ∧ (∀ d, d < c → P d = true → T c < T d) := by
  intro k
  induction k with
  | zero => intro c h; cases h
  | succ k ih =>
    intro c h
    rw [fd_bo] at h
    split at h
    · rename_i hp
      split at h
      · rename_i hb
        cases h
        have hf := fd_bo_n k hb
        refine ⟨by omega, hp, ?_, ?_⟩
        · intro d hd hd2
          rcases Nat.lt_or_ge d k with h1 | h1
          · rw [hf d h1] at hd2; cases hd2
          · have e : d = k := by omega
            rw [e]; exact Nat.le_refl _
        · intro d hd hd2
          rw [hf d hd] at hd2; cases hd2
      · rename_i c0 hb
        obtain ⟨h1, h2, h3, h4⟩ := ih c0 hb
        split at h
        · rename_i hlt
          cases h
          refine ⟨by omega, hp, ?_, ?_⟩
          · intro d hd hd2
            rcases Nat.lt_or_ge d k with g | g
            · have := h3 d g hd2; omega
            · have e : d = k := by omega
              rw [e]; exact Nat.le_refl _
          · intro d hd hd2
            have := h3 d hd hd2; omega
        · rename_i hlt
          cases h
          refine ⟨by omega, h2, ?_, h4⟩
          intro d hd hd2
          rcases Nat.lt_or_ge d k with g | g
          · exact h3 d g hd2
          · have e : d = k := by omega
            rw [e]; omega
    · rename_i hp
      obtain ⟨h1, h2, h3, h4⟩ := ih c h
      refine ⟨by omega, h2, ?_, h4⟩
      intro d hd hd2
      rcases Nat.lt_or_ge d k with g | g
      · exact h3 d g hd2
      · have e : d = k := by omega
        rw [e] at hd2
        exact absurd hd2 hp
/-- as the class keeps it: the first plan, its total; as the reference keeps it: the total -/
def fd_e1 : Option Nat → Int32
  | none => -1
  | some c => nI c
def fd_e2 (T : Nat → Nat) : Option Nat → Int32
  | none => 0
  | some c => nI (T c)
def fd_e3 (T : Nat → Nat) : Option Nat → Int32
  | none => -1
  | some c => nI (T c)
/-- the plan at which the reference stops: the first least one, or the last of all -/
def fd_gd : Option Nat → Nat
  | none => 1023
  | some c => c
theorem fd_gd_pv {T : Nat → Nat} {P : Nat → Bool} : fd_PV (fd_e1 (fd_bo T P 1024)) (fd_gd (fd_bo T P 1024)) := by
  cases h : fd_bo T P 1024 with
  | none => exact fd_pvm
  | some c => exact fd_pv (fd_bo_s _ _ h).1
theorem fd_gd_lt {T : Nat → Nat} {P : Nat → Bool} : fd_gd (fd_bo T P 1024) < 1024 := by
  cases h : fd_bo T P 1024 with
  | none => exact (by decide : 1023 < 1024)
  | some c => exact (fd_bo_s _ _ h).1
/-- jobs of plan c on machine m; the most over the least plans -/
def fd_ck (p c m : Nat) : Nat → Nat
  | 0 => 0
  | k + 1 => fd_ck p c m k + (if p.testBit k = true ∧ fd_dg c k = m then 1 else 0)
theorem fd_ck_le (p c m k : Nat) : fd_ck p c m k ≤ k := by
  induction k with
  | zero => exact Nat.le_refl 0
  | succ k ih =>
    rw [fd_ck]
    split <;> omega
def fd_mk (T : Nat → Nat) (P : Nat → Bool) (L : Int32) (p m : Nat) : Nat → Nat
  | 0 => 0
  | k + 1 => if P k = true ∧ nI (T k) = L then (if fd_mk T P L p m k < fd_ck p k m 5 then fd_ck p k m 5 else fd_mk T P L p m k) else fd_mk T P L p m k
theorem fd_mk_le (T : Nat → Nat) (P : Nat → Bool) (L : Int32) (p m k : Nat) : fd_mk T P L p m k ≤ 5 := by
  induction k with
  | zero => exact Nat.zero_le 5
  | succ k ih =>
    have h := fd_ck_le p k m 5
    rw [fd_mk]
    split
    · split <;> omega
    · exact ih

/-- the options: al is the set of columns, mu the job that is bound (or -1), mb its machine -/
def fd_op (n : Nat → Nat) (al mu mb : Int32) (i : Nat) : Bool := bt al (i % 4) && decide (n i ≠ 0) && decide (nI (i / 4) ≠ mu ∨ nI (i % 4) = mb)
def fd_om (n : Nat → Nat) (al : Int32) : Nat → Int32
  | 0 => 0
  | k + 1 => if bt al (k % 4) = true ∧ n k ≠ 0 then fd_om n al k ||| ((1 : Int32) <<< (nI k &&& 31)) else fd_om n al k
theorem fd_1sh : ∀ k, k < 32 → ∀ i, i < 32 → bt ((1 : Int32) <<< (nI k &&& 31)) i = decide (i = k) := by decide +kernel
theorem fd_om_b (n : Nat → Nat) (al : Int32) {i : Nat} (hi : i < 20) : ∀ k, k ≤ 20 → bt (fd_om n al k) i = (decide (i < k) && (bt al (i % 4) && decide (n i ≠ 0))) := by
  intro k
  induction k with
  | zero => intro _; rw [fd_om, b_0]; simp
  | succ k ih =>
    intro hk
    have h := ih (by omega)
    rw [fd_om]
    by_cases e : i = k
    · subst e
      rw [decide_eq_false (by omega : ¬ i < i), Bool.false_and] at h
      rw [decide_eq_true (by omega : i < i + 1), Bool.true_and]
      split
      · rename_i hc
        rw [b_or, h, fd_1sh i (by omega) i (by omega), hc.1, decide_eq_true hc.2]
        simp
      · rename_i hc
        rw [h]
        cases hb : bt al (i % 4)
        · rfl
        · rw [(decide_eq_false (fun z => hc ⟨hb, z⟩) : decide (n i ≠ 0) = false)]; rfl
    · have e2 : decide (i < k + 1) = decide (i < k) := decide_eq_decide.mpr (by omega)
      rw [e2, ← h]
      split
      · rw [b_or, fd_1sh k (by omega) i (by omega), decide_eq_false e, Bool.or_false]
      · rfl
/-- the mask of the options, as has(options, ..) reads it -/
def fd_MK (x : Int32) (o : Nat → Bool) : Prop := ∀ i, i < 20 → bt x i = o i
theorem fd_nm1 : ∀ i, i < 20 → nI (i / 4) ≠ -1 := by decide +kernel
theorem fd_mk0 (n : Nat → Nat) (al mb : Int32) : fd_MK (fd_om n al 20) (fd_op n al (-1) mb) := by
  intro i hi
  have hd : decide (nI (i / 4) ≠ (-1 : Int32) ∨ nI (i % 4) = mb) = true := decide_eq_true (Or.inl (fd_nm1 i hi))
  rw [fd_om_b n al hi 20 (by omega), fd_op, decide_eq_true hi, hd, Bool.true_and, Bool.and_true]
theorem fd_wm : ∀ j, j < 5 → ∀ m, m < 4 → ∀ i, i < 20 → bt ((((15 : Int32) <<< (nI (4 * j) &&& 31)) &&& (((1 : Int32) <<< (nI (4 * j + m) &&& 31)) ^^^ (-1))) ^^^ (-1)) i = decide (nI (i / 4) ≠ nI j ∨ nI (i % 4) = nI m) := by decide +kernel
theorem fd_mkW (n : Nat → Nat) (al : Int32) {j m : Nat} (hj : j < 5) (hm : m < 4) : fd_MK (fd_om n al 20 &&& ((((15 : Int32) <<< (nI (4 * j) &&& 31)) &&& (((1 : Int32) <<< (nI (4 * j + m) &&& 31)) ^^^ (-1))) ^^^ (-1))) (fd_op n al (nI j) (nI m)) := by
  intro i hi
  rw [b_and, fd_om_b n al hi 20 (by omega), fd_wm j hj m hm i hi, fd_op, decide_eq_true hi, Bool.true_and]
/-- which jobs are there -/
def fd_th (p : Nat) : Nat → Int32 := fun i => fd_b (p.testBit i)
def fd_rm (p j : Nat) : Nat := p &&& (31 - 2 ^ j)
def fd_ad (p j : Nat) : Nat := p ||| 2 ^ j
theorem fd_rm_lt : ∀ p, p < 32 → ∀ j, j < 5 → fd_rm p j < 32 := by decide +kernel
theorem fd_ad_lt : ∀ p, p < 32 → ∀ j, j < 5 → fd_ad p j < 32 := by decide +kernel
theorem fd_rm_t : ∀ p, p < 32 → ∀ j, j < 5 → ∀ i, i < 5 → (fd_rm p j).testBit i = (p.testBit i && decide (i ≠ j)) := by decide +kernel
theorem fd_ad_t : ∀ p, p < 32 → ∀ j, j < 5 → ∀ i, i < 5 → (fd_ad p j).testBit i = (p.testBit i || decide (i = j)) := by decide +kernel
theorem fd_rm_i : ∀ p, p < 32 → ∀ j, j < 5 → nI p &&& (((1 : Int32) <<< (nI j &&& 31)) ^^^ (-1)) = nI (fd_rm p j) := by decide +kernel
theorem fd_ad_i : ∀ p, p < 32 → ∀ j, j < 5 → nI p ||| ((1 : Int32) <<< (nI j &&& 31)) = nI (fd_ad p j) := by decide +kernel
theorem fd_ra : ∀ p, p < 32 → ∀ j, j < 5 → p.testBit j = true → fd_ad (fd_rm p j) j = p := by decide +kernel
theorem fd_big {p i : Nat} (hp : p < 32) (hi : 5 ≤ i) : p.testBit i = false := Nat.testBit_lt_two_pow (Nat.lt_of_lt_of_le (show p < 2 ^ 5 from hp) (Nat.pow_le_pow_right (by decide) hi))
theorem fd_th_rm {p j : Nat} (hp : p < 32) (hj : j < 5) : upd (fd_th p) j 0 = fd_th (fd_rm p j) := by
  funext i
  unfold upd fd_th
  rcases Nat.lt_or_ge i 5 with h | h
  · rw [fd_rm_t p hp j hj i h]
    split
    · rename_i e; rw [(decide_eq_false (fun z => z e) : decide (i ≠ j) = false), Bool.and_false]; rfl
    · rename_i e; rw [decide_eq_true e, Bool.and_true]
  · rw [if_neg (by omega), fd_big hp h, fd_big (fd_rm_lt p hp j hj) h]
theorem fd_th_ad {p j : Nat} (hp : p < 32) (hj : j < 5) : upd (fd_th p) j 1 = fd_th (fd_ad p j) := by
  funext i
  unfold upd fd_th
  rcases Nat.lt_or_ge i 5 with h | h
  · rw [fd_ad_t p hp j hj i h]
    split
    · rename_i e; rw [decide_eq_true e, Bool.or_true]; rfl
    · rename_i e; rw [decide_eq_false e, Bool.or_false]
  · rw [if_neg (by omega), fd_big hp h, fd_big (fd_ad_lt p hp j hj) h]
/-- times -/
def fd_up (n : Nat → Nat) (k v : Nat) : Nat → Nat := fun i => if i = k then v else n i
def fd_ti (n : Nat → Nat) : Nat → Int32 := fun i => nI (n i)
theorem fd_ti_up (n : Nat → Nat) (k v : Nat) : upd (fd_ti n) k (nI v) = fd_ti (fd_up n k v) := by
  funext i
  unfold upd fd_ti fd_up
  split <;> rfl
theorem fd_up_le {n : Nat → Nat} (hn : ∀ i, n i ≤ 15) {k v : Nat} (hv : v ≤ 15) : ∀ i, fd_up n k v i ≤ 15 := by
  intro i
  unfold fd_up
  split
  · exact hv
  · exact hn i
theorem fd_up_id (n : Nat → Nat) (k v : Nat) : fd_up (fd_up n k v) k (n k) = n := by
  funext i
  unfold fd_up
  split
  · rename_i e; rw [e]
  · rfl
theorem fd_tlt {n : Nat → Nat} (hn : ∀ i, n i ≤ 15) (x y : Nat) : (nI (n x) < nI (n y)) = (n x < n y) := by
  have h1 := hn x
  have h2 := hn y
  exact propext (nI_ltI (by omega) (by omega))
theorem fd_teq {n : Nat → Nat} (hn : ∀ i, n i ≤ 15) (x y : Nat) : (nI (n x) = nI (n y)) = (n x = n y) := by
  have h1 := hn x
  have h2 := hn y
  exact propext (nI_eq (by omega) (by omega))
theorem fd_te0 {n : Nat → Nat} (hn : ∀ i, n i ≤ 15) (x : Nat) : (nI (n x) = 0) = (n x = 0) := by
  have h1 := hn x
  have h := nI_eq (a := n x) (b := 0) (by omega) (by omega)
  rw [nI_0] at h
  exact propext h
theorem fd_tl0 {n : Nat → Nat} (hn : ∀ i, n i ≤ 15) (x : Nat) : (nI (n x) ≤ 0) = (n x = 0) := by
  have h1 := hn x
  have h := nI_leI (a := n x) (b := 0) (by omega) (by omega)
  rw [nI_0] at h
  exact propext (h.trans (by omega))
theorem fd_ixA (j d : Nat) : nI j * 4 + nI d = nI (4 * j + d) := by
  show nI j * nI 4 + nI d = _
  rw [pk_mul, nI_add, Nat.mul_comm]
theorem fd_ixB (j d : Nat) : 4 * nI j + nI d = nI (4 * j + d) := by
  show nI 4 * nI j + nI d = _
  rw [pk_mul, nI_add]
theorem fd_mulA (j : Nat) : nI j * 4 = nI (4 * j) := by
  show nI j * nI 4 = _
  rw [pk_mul, Nat.mul_comm]
theorem fd_mulB (j : Nat) : 4 * nI j = nI (4 * j) := by
  show nI 4 * nI j = _
  rw [pk_mul]
