section
/-! numbers and bits (rows of kit/rows, pasted) -/
theorem pk_us {f : Nat → Int32} {k : Nat} {x : Int32} : upd f k x k = x := if_pos rfl
theorem pk_un {f : Nat → Int32} {k j : Nat} {x : Int32} (h : j ≠ k) : upd f k x j = f j := if_neg h
theorem pk_sub {a b : Nat} (h : b ≤ a) : nI a - nI b = nI (a - b) := by
  obtain ⟨c, rfl⟩ : ∃ c, a = c + b := ⟨a - b, by omega⟩
  rw [← nI_add, Int32.add_sub_cancel, Nat.add_sub_cancel]
theorem pk_m1 (n : Nat) : nI (n + 1) + (-1) = nI n := by
  rw [← nI_1, Int32.add_assoc, show (1 : Int32) + (-1) = 0 from rfl, Int32.add_zero]
theorem pk_mul (a b : Nat) : nI a * nI b = nI (a * b) := (Int32.ofNat_mul a b).symm
theorem pk_ix (x : Int32) {n : Nat} (hn : n < 2 ^ 31) : x < 0 ∨ nI n ≤ x ∨ ∃ j : Nat, j < n ∧ x = nI j := by
  by_cases h : x < 0
  · exact Or.inl h
  · obtain ⟨j, hj, rfl⟩ := nI_of h
    by_cases h2 : j < n
    · exact Or.inr (Or.inr ⟨j, h2, rfl⟩)
    · exact Or.inr (Or.inl (nI_le (by omega) hj))
theorem pk_tn {n : Nat} (h : n < 2 ^ 32) : (nI n).toBitVec.toNat = n := Nat.mod_eq_of_lt h
theorem pk_and (x : Int32) {m : Int32} (k : Nat) (hm : m.toBitVec.toNat = 2 ^ k - 1) : x &&& m = nI (x.toBitVec.toNat % 2 ^ k) := by
  apply Int32.toBitVec_inj.mp
  apply BitVec.eq_of_toNat_eq
  rw [Int32.toBitVec_and, BitVec.toNat_and, hm, Nat.and_two_pow_sub_one_eq_mod]
  show _ = (BitVec.ofNat 32 _).toNat
  rw [BitVec.toNat_ofNat]
  exact (Nat.mod_eq_of_lt (Nat.lt_of_le_of_lt (Nat.mod_le _ _) x.toBitVec.isLt)).symm
theorem pk_andN {n : Nat} (h : n < 2 ^ 32) {m : Int32} (k : Nat) (hm : m.toBitVec.toNat = 2 ^ k - 1) : nI n &&& m = nI (n % 2 ^ k) := by
  rw [pk_and _ k hm, pk_tn h]
theorem pk_shr (a s : Int32) (k : Nat) (hs : (s.toBitVec.smod 32).toNat = k) : (a >>> s).toInt = a.toInt >>> k := by
  show (a.toBitVec.sshiftRight (s.toBitVec.smod 32).toNat).toInt = _
  rw [hs, BitVec.toInt_sshiftRight]
  rfl
theorem pk_shrN {n : Nat} (h : n < 2 ^ 31) (s : Int32) (k : Nat) (hs : (s.toBitVec.smod 32).toNat = k) : nI n >>> s = nI (n / 2 ^ k) := by
  apply Int32.toInt_inj.mp
  have h2 : n / 2 ^ k ≤ n := Nat.div_le_self _ _
  rw [pk_shr _ _ k hs, nI_toInt h, nI_toInt (by omega), Int.shiftRight_eq_div_pow]
  rfl
def bt (x : Int32) (i : Nat) : Bool := x.toBitVec.getLsbD i
theorem b_ext {x y : Int32} (h : ∀ i, i < 32 → bt x i = bt y i) : x = y := Int32.toBitVec_inj.mp (BitVec.eq_of_getLsbD_eq (fun i hi => h i hi))
theorem b_or (x y : Int32) (i : Nat) : bt (x ||| y) i = (bt x i || bt y i) := by unfold bt; rw [Int32.toBitVec_or, BitVec.getLsbD_or]
theorem b_and (x y : Int32) (i : Nat) : bt (x &&& y) i = (bt x i && bt y i) := by unfold bt; rw [Int32.toBitVec_and, BitVec.getLsbD_and]
theorem b_xor (x y : Int32) (i : Nat) : bt (x ^^^ y) i = (bt x i ^^ bt y i) := by unfold bt; rw [Int32.toBitVec_xor, BitVec.getLsbD_xor]
theorem b_big {x : Int32} {i : Nat} (h : 32 ≤ i) : bt x i = false := BitVec.getLsbD_of_ge _ _ h
theorem b_m1 : ∀ i, i < 32 → bt (-1) i = true := by decide +kernel
theorem b_0 (i : Nat) : bt 0 i = false := BitVec.getLsbD_zero
theorem s_l : ∀ n, n < 32 → ((nI n &&& 31).toBitVec.smod 32).toNat = n := by decide +kernel
theorem b_shl (n : Nat) (hn : n < 32) (x : Int32) {i : Nat} (hi : i < 32) : bt (x <<< (nI n &&& 31)) i = (decide (n ≤ i) && bt x (i - n)) := by
  unfold bt
  rw [Int32.toBitVec_shiftLeft]
  show (x.toBitVec <<< ((nI n &&& 31).toBitVec.smod 32).toNat).getLsbD i = _
  rw [s_l n hn, BitVec.getLsbD_shiftLeft]
  rcases Nat.lt_or_ge i n with h | h
  · simp [h, Nat.not_le.mpr h]
  · simp [hi, h, Nat.not_lt.mpr h]
theorem b_sshr (n : Nat) (hn : n < 32) (x : Int32) {i : Nat} (hi : i < 32) : bt (x >>> (nI n &&& 31)) i = if n + i < 32 then bt x (n + i) else bt x 31 := by
  unfold bt
  rw [Int32.toBitVec_shiftRight]
  show (x.toBitVec.sshiftRight ((nI n &&& 31).toBitVec.smod 32).toNat).getLsbD i = _
  rw [s_l n hn, BitVec.getLsbD_sshiftRight, BitVec.msb_eq_getLsbD_last]
  simp [hi]
end
section
/-! the pure picture: digits of a plan, finishing times, totals, the first least plan -/
def fd_b (b : Bool) : Int32 := if b = true then 1 else 0
theorem fd_b_t : fd_b true = 1 := rfl
theorem fd_b_f : fd_b false = 0 := rfl
theorem fd_b0 : ∀ b : Bool, (fd_b b = 0) = (b = false) := by
  intro b; cases b
  · exact propext ⟨fun _ => rfl, fun _ => rfl⟩
  · exact propext ⟨fun h => absurd h (by decide), fun h => absurd h (by decide)⟩
theorem fd_b1 : ∀ b : Bool, (fd_b b = 1) = (b = true) := by
  intro b; cases b
  · exact propext ⟨fun h => absurd h (by decide), fun h => absurd h (by decide)⟩
  · exact propext ⟨fun _ => rfl, fun _ => rfl⟩
theorem fd_bit1 : ∀ i, i < 32 → bt 1 i = decide (i = 0) := by decide +kernel
theorem fd_has (x : Int32) {i : Nat} (hi : i < 32) : (x >>> (nI i &&& 31)) &&& 1 = fd_b (bt x i) := by
  apply b_ext
  intro k hk
  rw [b_and, b_sshr i hi x hk, fd_bit1 k hk]
  by_cases h0 : k = 0
  · subst h0
    rw [if_pos (by omega : i + 0 < 32), Nat.add_zero]
    cases bt x i
    · simp [fd_b, b_0]
    · simp [fd_b, fd_bit1]
  · rw [decide_eq_false h0, Bool.and_false]
    cases bt x i
    · rw [fd_b_f, b_0]
    · rw [fd_b_t, fd_bit1 k hk, decide_eq_false h0]
theorem fd_btN (p : Nat) {i : Nat} (hi : i < 32) : bt (nI p) i = p.testBit i := by
  show (BitVec.ofNat 32 p).getLsbD i = _
  rw [BitVec.getLsbD_ofNat, decide_eq_true hi, Bool.true_and]
theorem fd_hasN (p : Nat) {i : Nat} (hi : i < 32) : (nI p >>> (nI i &&& 31)) &&& 1 = fd_b (p.testBit i) := by
  rw [fd_has _ hi, fd_btN p hi]

def fd_dg (c j : Nat) : Nat := c / 4 ^ (4 - j) % 4
theorem fd_dg_lt (c j : Nat) : fd_dg c j < 4 := Nat.mod_lt _ (by decide)
def fd_PV (x : Int32) (c : Nat) : Prop := ∀ j, j < 5 → (x >>> ((2 * (4 - nI j)) &&& 31)) &&& 3 = nI (fd_dg c j)
theorem fd_sh1 : ∀ j, j < 5 → (((2 * (4 - nI j)) &&& 31).toBitVec.smod 32).toNat = 2 * (4 - j) := by decide +kernel
theorem fd_sh2 : ∀ j, j < 5 → 8 - 2 * nI j = 2 * (4 - nI j) := by decide +kernel
theorem fd_pv {c : Nat} (hc : c < 1024) : fd_PV (nI c) c := by
  intro j hj
  rw [pk_shrN (n := c) (by omega) _ (2 * (4 - j)) (fd_sh1 j hj), pk_andN (n := c / 2 ^ (2 * (4 - j))) (Nat.lt_of_le_of_lt (Nat.div_le_self c _) (by omega)) 2 (by decide), Nat.pow_mul]
  rfl
theorem fd_pvm : fd_PV (-1) 1023 := by
  unfold fd_PV
  decide +kernel
theorem fd_dgY {c j : Nat} (hc : c < 1024) (hj : j < 5) : (nI c >>> ((8 - 2 * nI j) &&& 31)) &&& 3 = nI (fd_dg c j) := by
  rw [fd_sh2 j hj]
  exact fd_pv hc j hj

def fd_tm (n : Nat → Nat) (c j : Nat) : Nat := n (4 * j + fd_dg c j)
def fd_fk (n : Nat → Nat) (p c j : Nat) : Nat → Nat
  | 0 => fd_tm n c j
  | k + 1 => fd_fk n p c j k + (if p.testBit k = true ∧ k ≠ j ∧ fd_dg c k = fd_dg c j ∧ (fd_tm n c k < fd_tm n c j ∨ (fd_tm n c k = fd_tm n c j ∧ k < j)) then fd_tm n c k else 0)
def fd_tk (n : Nat → Nat) (p c : Nat) : Nat → Nat
  | 0 => 0
  | k + 1 => fd_tk n p c k + (if p.testBit k = true then fd_fk n p c k 5 else 0)
theorem fd_fk_le {n : Nat → Nat} (hn : ∀ i, n i ≤ 15) (p c j k : Nat) : fd_fk n p c j k ≤ 15 * (k + 1) := by
  induction k with
  | zero => exact hn _
  | succ k ih =>
    have h : fd_tm n c k ≤ 15 := hn _
    rw [fd_fk]
    split <;> omega
theorem fd_tk_le {n : Nat → Nat} (hn : ∀ i, n i ≤ 15) (p c k : Nat) : fd_tk n p c k ≤ 90 * k := by
  induction k with
  | zero => exact Nat.le_refl 0
  | succ k ih =>
    have h := fd_fk_le hn p c k 5
    rw [fd_tk]
    split <;> omega

def fd_ok (o : Nat → Bool) (p c j : Nat) : Bool := if p.testBit j = true then o (4 * j + fd_dg c j) else decide (fd_dg c j = 0)
def fd_ip (o : Nat → Bool) (p c : Nat) : Nat → Bool
  | 0 => true
  | k + 1 => fd_ip o p c k && fd_ok o p c k
theorem fd_ip_f {o : Nat → Bool} {p c k : Nat} (h : fd_ip o p c k = false) (d : Nat) : fd_ip o p c (k + d) = false := by
  induction d with
  | zero => exact h
  | succ d ih =>
    show (fd_ip o p c (k + d) && fd_ok o p c (k + d)) = false
    rw [ih, Bool.false_and]

def fd_bo (T : Nat → Nat) (P : Nat → Bool) : Nat → Option Nat
  | 0 => none
  | k + 1 => if P k = true then (match fd_bo T P k with
      | none => some k
      | some c => if T k < T c then some k else some c) else fd_bo T P k
theorem fd_bo_n {T : Nat → Nat} {P : Nat → Bool} : ∀ k, fd_bo T P k = none → ∀ d, d < k → P d = false := by
  intro k
  induction k with
  | zero => intro _ d hd; omega
  | succ k ih =>
    intro h d hd
    rw [fd_bo] at h
    split at h
    · split at h
      · cases h
      · split at h <;> cases h
    · rename_i hp
      rcases Nat.lt_or_ge d k with h1 | h1
      · exact ih h d h1
      · have e : d = k := by omega
        rw [e]
        cases hq : P k
        · rfl
        · exact absurd hq hp
theorem fd_bo_s {T : Nat → Nat} {P : Nat → Bool} : ∀ k c, fd_bo T P k = some c → c < k ∧ P c = true ∧ (∀ d, d < k → P d = true → T c ≤ T d) ∧ (∀ d, d < c → P d = true → T c < T d) := by
  intro k
  induction k with
  | zero => intro c h; cases h
  | succ k ih =>
    intro c h
    rw [fd_bo] at h
    split at h
    · rename_i hp
      split at h
      · rename_i hb
        cases h
        have hf := fd_bo_n k hb
        refine ⟨by omega, hp, ?_, ?_⟩
        · intro d hd hd2
          rcases Nat.lt_or_ge d k with h1 | h1
          · rw [hf d h1] at hd2; cases hd2
          · have e : d = k := by omega
            rw [e]; exact Nat.le_refl _
        · intro d hd hd2
          rw [hf d hd] at hd2; cases hd2
      · rename_i c0 hb
        obtain ⟨h1, h2, h3, h4⟩ := ih c0 hb
        split at h
        · rename_i hlt
          cases h
          refine ⟨by omega, hp, ?_, ?_⟩
          · intro d hd hd2
            rcases Nat.lt_or_ge d k with g | g
            · have := h3 d g hd2; omega
            · have e : d = k := by omega
              rw [e]; exact Nat.le_refl _
          · intro d hd hd2
            have := h3 d hd hd2; omega
        · rename_i hlt
          cases h
          refine ⟨by omega, h2, ?_, h4⟩
          intro d hd hd2
          rcases Nat.lt_or_ge d k with g | g
          · exact h3 d g hd2
          · have e : d = k := by omega
            rw [e]; omega
    · rename_i hp
      obtain ⟨h1, h2, h3, h4⟩ := ih c h
      refine ⟨by omega, h2, ?_, h4⟩
      intro d hd hd2
      rcases Nat.lt_or_ge d k with g | g
      · exact h3 d g hd2
      · have e : d = k := by omega
        rw [e] at hd2
        exact absurd hd2 hp
/-- as the class keeps it: the first plan, its total; as the reference keeps it: the total -/
def fd_e1 : Option Nat → Int32
  | none => -1
  | some c => nI c
def fd_e2 (T : Nat → Nat) : Option Nat → Int32
  | none => 0
  | some c => nI (T c)
def fd_e3 (T : Nat → Nat) : Option Nat → Int32
  | none => -1
  | some c => nI (T c)
/-- the plan at which the reference stops: the first least one, or the last of all -/
def fd_gd : Option Nat → Nat
  | none => 1023
  | some c => c
theorem fd_gd_pv {T : Nat → Nat} {P : Nat → Bool} : fd_PV (fd_e1 (fd_bo T P 1024)) (fd_gd (fd_bo T P 1024)) := by
  cases h : fd_bo T P 1024 with
  | none => exact fd_pvm
  | some c => exact fd_pv (fd_bo_s _ _ h).1
theorem fd_gd_lt {T : Nat → Nat} {P : Nat → Bool} : fd_gd (fd_bo T P 1024) < 1024 := by
  cases h : fd_bo T P 1024 with
  | none => exact (by decide : 1023 < 1024)
  | some c => exact (fd_bo_s _ _ h).1
/-- jobs of plan c on machine m; the most over the least plans -/
def fd_ck (p c m : Nat) : Nat → Nat
  | 0 => 0
  | k + 1 => fd_ck p c m k + (if p.testBit k = true ∧ fd_dg c k = m then 1 else 0)
theorem fd_ck_le (p c m k : Nat) : fd_ck p c m k ≤ k := by
  induction k with
  | zero => exact Nat.le_refl 0
  | succ k ih =>
    rw [fd_ck]
    split <;> omega
def fd_mk (T : Nat → Nat) (P : Nat → Bool) (L : Int32) (p m : Nat) : Nat → Nat
  | 0 => 0
  | k + 1 => if P k = true ∧ nI (T k) = L then (if fd_mk T P L p m k < fd_ck p k m 5 then fd_ck p k m 5 else fd_mk T P L p m k) else fd_mk T P L p m k
theorem fd_mk_le (T : Nat → Nat) (P : Nat → Bool) (L : Int32) (p m k : Nat) : fd_mk T P L p m k ≤ 5 := by
  induction k with
  | zero => exact Nat.zero_le 5
  | succ k ih =>
    have h := fd_ck_le p k m 5
    rw [fd_mk]
    split
    · split <;> omega
    · exact ih

/-- the options: al is the set of columns, mu the job that is bound (or -1), mb its machine -/
def fd_op (n : Nat → Nat) (al mu mb : Int32) (i : Nat) : Bool := bt al (i % 4) && decide (n i ≠ 0) && decide (nI (i / 4) ≠ mu ∨ nI (i % 4) = mb)
def fd_om (n : Nat → Nat) (al : Int32) : Nat → Int32
  | 0 => 0
  | k + 1 => if bt al (k % 4) = true ∧ n k ≠ 0 then fd_om n al k ||| ((1 : Int32) <<< (nI k &&& 31)) else fd_om n al k
theorem fd_1sh : ∀ k, k < 32 → ∀ i, i < 32 → bt ((1 : Int32) <<< (nI k &&& 31)) i = decide (i = k) := by decide +kernel
theorem fd_om_b (n : Nat → Nat) (al : Int32) {i : Nat} (hi : i < 20) : ∀ k, k ≤ 20 → bt (fd_om n al k) i = (decide (i < k) && (bt al (i % 4) && decide (n i ≠ 0))) := by
  intro k
  induction k with
  | zero => intro _; rw [fd_om, b_0]; simp
  | succ k ih =>
    intro hk
    have h := ih (by omega)
    rw [fd_om]
    by_cases e : i = k
    · subst e
      rw [decide_eq_false (by omega : ¬ i < i), Bool.false_and] at h
      rw [decide_eq_true (by omega : i < i + 1), Bool.true_and]
      split
      · rename_i hc
        rw [b_or, h, fd_1sh i (by omega) i (by omega), hc.1, decide_eq_true hc.2]
        simp
      · rename_i hc
        rw [h]
        cases hb : bt al (i % 4)
        · rfl
        · rw [(decide_eq_false (fun z => hc ⟨hb, z⟩) : decide (n i ≠ 0) = false)]; rfl
    · have e2 : decide (i < k + 1) = decide (i < k) := decide_eq_decide.mpr (by omega)
      rw [e2, ← h]
      split
      · rw [b_or, fd_1sh k (by omega) i (by omega), decide_eq_false e, Bool.or_false]
      · rfl
/-- the mask of the options, as has(options, ..) reads it -/
def fd_MK (x : Int32) (o : Nat → Bool) : Prop := ∀ i, i < 20 → bt x i = o i
theorem fd_nm1 : ∀ i, i < 20 → nI (i / 4) ≠ -1 := by decide +kernel
theorem fd_mk0 (n : Nat → Nat) (al mb : Int32) : fd_MK (fd_om n al 20) (fd_op n al (-1) mb) := by
  intro i hi
  have hd : decide (nI (i / 4) ≠ (-1 : Int32) ∨ nI (i % 4) = mb) = true := decide_eq_true (Or.inl (fd_nm1 i hi))
  rw [fd_om_b n al hi 20 (by omega), fd_op, decide_eq_true hi, hd, Bool.true_and, Bool.and_true]
theorem fd_wm : ∀ j, j < 5 → ∀ m, m < 4 → ∀ i, i < 20 → bt ((((15 : Int32) <<< (nI (4 * j) &&& 31)) &&& (((1 : Int32) <<< (nI (4 * j + m) &&& 31)) ^^^ (-1))) ^^^ (-1)) i = decide (nI (i / 4) ≠ nI j ∨ nI (i % 4) = nI m) := by decide +kernel
theorem fd_mkW (n : Nat → Nat) (al : Int32) {j m : Nat} (hj : j < 5) (hm : m < 4) : fd_MK (fd_om n al 20 &&& ((((15 : Int32) <<< (nI (4 * j) &&& 31)) &&& (((1 : Int32) <<< (nI (4 * j + m) &&& 31)) ^^^ (-1))) ^^^ (-1))) (fd_op n al (nI j) (nI m)) := by
  intro i hi
  rw [b_and, fd_om_b n al hi 20 (by omega), fd_wm j hj m hm i hi, fd_op, decide_eq_true hi, Bool.true_and]
/-- which jobs are there -/
def fd_th (p : Nat) : Nat → Int32 := fun i => fd_b (p.testBit i)
def fd_rm (p j : Nat) : Nat := p &&& (31 - 2 ^ j)
def fd_ad (p j : Nat) : Nat := p ||| 2 ^ j
theorem fd_rm_lt : ∀ p, p < 32 → ∀ j, j < 5 → fd_rm p j < 32 := by decide +kernel
theorem fd_ad_lt : ∀ p, p < 32 → ∀ j, j < 5 → fd_ad p j < 32 := by decide +kernel
theorem fd_rm_t : ∀ p, p < 32 → ∀ j, j < 5 → ∀ i, i < 5 → (fd_rm p j).testBit i = (p.testBit i && decide (i ≠ j)) := by decide +kernel
theorem fd_ad_t : ∀ p, p < 32 → ∀ j, j < 5 → ∀ i, i < 5 → (fd_ad p j).testBit i = (p.testBit i || decide (i = j)) := by decide +kernel
theorem fd_rm_i : ∀ p, p < 32 → ∀ j, j < 5 → nI p &&& (((1 : Int32) <<< (nI j &&& 31)) ^^^ (-1)) = nI (fd_rm p j) := by decide +kernel
theorem fd_ad_i : ∀ p, p < 32 → ∀ j, j < 5 → nI p ||| ((1 : Int32) <<< (nI j &&& 31)) = nI (fd_ad p j) := by decide +kernel
theorem fd_ra : ∀ p, p < 32 → ∀ j, j < 5 → p.testBit j = true → fd_ad (fd_rm p j) j = p := by decide +kernel
theorem fd_big {p i : Nat} (hp : p < 32) (hi : 5 ≤ i) : p.testBit i = false := Nat.testBit_lt_two_pow (Nat.lt_of_lt_of_le (show p < 2 ^ 5 from hp) (Nat.pow_le_pow_right (by decide) hi))
theorem fd_th_rm {p j : Nat} (hp : p < 32) (hj : j < 5) : upd (fd_th p) j 0 = fd_th (fd_rm p j) := by
  funext i
  unfold upd fd_th
  rcases Nat.lt_or_ge i 5 with h | h
  · rw [fd_rm_t p hp j hj i h]
    split
    · rename_i e; rw [(decide_eq_false (fun z => z e) : decide (i ≠ j) = false), Bool.and_false]; rfl
    · rename_i e; rw [decide_eq_true e, Bool.and_true]
  · rw [if_neg (by omega), fd_big hp h, fd_big (fd_rm_lt p hp j hj) h]
theorem fd_th_ad {p j : Nat} (hp : p < 32) (hj : j < 5) : upd (fd_th p) j 1 = fd_th (fd_ad p j) := by
  funext i
  unfold upd fd_th
  rcases Nat.lt_or_ge i 5 with h | h
  · rw [fd_ad_t p hp j hj i h]
    split
    · rename_i e; rw [decide_eq_true e, Bool.or_true]; rfl
    · rename_i e; rw [decide_eq_false e, Bool.or_false]
  · rw [if_neg (by omega), fd_big hp h, fd_big (fd_ad_lt p hp j hj) h]
/-- times -/
def fd_up (n : Nat → Nat) (k v : Nat) : Nat → Nat := fun i => if i = k then v else n i
def fd_ti (n : Nat → Nat) : Nat → Int32 := fun i => nI (n i)
theorem fd_ti_up (n : Nat → Nat) (k v : Nat) : upd (fd_ti n) k (nI v) = fd_ti (fd_up n k v) := by
  funext i
  unfold upd fd_ti fd_up
  split <;> rfl
theorem fd_up_le {n : Nat → Nat} (hn : ∀ i, n i ≤ 15) {k v : Nat} (hv : v ≤ 15) : ∀ i, fd_up n k v i ≤ 15 := by
  intro i
  unfold fd_up
  split
  · exact hv
  · exact hn i
theorem fd_up_id (n : Nat → Nat) (k v : Nat) : fd_up (fd_up n k v) k (n k) = n := by
  funext i
  unfold fd_up
  split
  · rename_i e; rw [e]
  · rfl
theorem fd_tlt {n : Nat → Nat} (hn : ∀ i, n i ≤ 15) (x y : Nat) : (nI (n x) < nI (n y)) = (n x < n y) := by
  have h1 := hn x
  have h2 := hn y
  exact propext (nI_ltI (by omega) (by omega))
theorem fd_teq {n : Nat → Nat} (hn : ∀ i, n i ≤ 15) (x y : Nat) : (nI (n x) = nI (n y)) = (n x = n y) := by
  have h1 := hn x
  have h2 := hn y
  exact propext (nI_eq (by omega) (by omega))
theorem fd_te0 {n : Nat → Nat} (hn : ∀ i, n i ≤ 15) (x : Nat) : (nI (n x) = 0) = (n x = 0) := by
  have h1 := hn x
  have h := nI_eq (a := n x) (b := 0) (by omega) (by omega)
  rw [nI_0] at h
  exact propext h
theorem fd_tl0 {n : Nat → Nat} (hn : ∀ i, n i ≤ 15) (x : Nat) : (nI (n x) ≤ 0) = (n x = 0) := by
  have h1 := hn x
  have h := nI_leI (a := n x) (b := 0) (by omega) (by omega)
  rw [nI_0] at h
  exact propext (h.trans (by omega))
theorem fd_ixA (j d : Nat) : nI j * 4 + nI d = nI (4 * j + d) := by
  show nI j * nI 4 + nI d = _
  rw [pk_mul, nI_add, Nat.mul_comm]
theorem fd_ixB (j d : Nat) : 4 * nI j + nI d = nI (4 * j + d) := by
  show nI 4 * nI j + nI d = _
  rw [pk_mul, nI_add]
theorem fd_mulA (j : Nat) : nI j * 4 = nI (4 * j) := by
  show nI j * nI 4 = _
  rw [pk_mul, Nat.mul_comm]
theorem fd_mulB (j : Nat) : 4 * nI j = nI (4 * j) := by
  show nI 4 * nI j = _
  rw [pk_mul]
end
section
/-! the class's walks against the picture -/
def fd_T (n : Nat → Nat) (p c : Nat) : Nat := fd_tk n p c 5
def fd_P (o : Nat → Bool) (p c : Nat) : Bool := fd_ip o p c 5
theorem fd_T_lt {n : Nat → Nat} (hn : ∀ i, n i ≤ 15) (p c : Nat) : fd_T n p c < 1000 := by
  have h : fd_T n p c ≤ 90 * 5 := fd_tk_le hn p c 5
  omega
theorem fd_bo_0 {T : Nat → Nat} {P : Nat → Bool} {k : Nat} (h : P k = false) : fd_bo T P (k + 1) = fd_bo T P k := by
  rw [fd_bo, if_neg (by rw [h]; decide)]
theorem fd_bo_1 {T : Nat → Nat} {P : Nat → Bool} {k : Nat} (h : P k = true) (hb : fd_bo T P k = none) : fd_bo T P (k + 1) = some k := by
  rw [fd_bo, if_pos h, hb]
theorem fd_bo_2 {T : Nat → Nat} {P : Nat → Bool} {k c : Nat} (h : P k = true) (hb : fd_bo T P k = some c) (ht : T k < T c) : fd_bo T P (k + 1) = some k := by
  rw [fd_bo, if_pos h, hb]
  exact if_pos ht
theorem fd_bo_3 {T : Nat → Nat} {P : Nat → Bool} {k c : Nat} (h : P k = true) (hb : fd_bo T P k = some c) (ht : ¬ T k < T c) : fd_bo T P (k + 1) = some c := by
  rw [fd_bo, if_pos h, hb]
  exact if_neg ht
theorem fd_nneg {c : Nat} (h : c < 2 ^ 31) : ¬ nI c = -1 := fun z => by
  have h2 := nI_pos' h
  rw [z] at h2
  exact absurd h2 (by decide)
theorem fd_ne {a b : Nat} (ha : a < 2 ^ 31) (hb : b < 2 ^ 31) (h : a ≠ b) : ¬ nI a = nI b := fun z => h ((nI_eq ha hb).mp z)
theorem fd_tic (n : Nat → Nat) {k : Nat} (h : k < 2 ^ 31) : fd_ti n (nI k).toNatClampNeg = nI (n k) := by
  rw [nI_clamp h]
  rfl

section
variable {fm fe fp : Int32} {n : Nat → Nat} {p : Nat}

theorem fd_xhas {post : Int32 → Prop} (x : Int32) {i : Nat} (hi : i < 32) (h : post (fd_b (bt x i))) : wpX_has post x (nI i) := by
  unfold wpX_has
  rw [fd_has x hi]
  cases hb : bt x i with
  | false => rw [hb] at h; exact br_t rfl h
  | true => rw [hb] at h; exact br_f (by decide) h
theorem fd_xhasN {post : Int32 → Prop} (p : Nat) {i : Nat} (hi : i < 32) (h : post (fd_b (p.testBit i))) : wpX_has post (nI p) (nI i) :=
  fd_xhas (nI p) hi (by rw [fd_btN p hi]; exact h)
theorem fd_xmi {post : Int32 → Prop} {x : Int32} {c j : Nat} (hx : fd_PV x c) (hj : j < 5) (h : post (nI (fd_dg c j))) : wpX_machineIn post x (nI j) := by
  unfold wpX_machineIn
  rw [hx j hj]
  exact h

theorem fd_xip45 {post J2 : Int32 → Prop} {x0 x1 x2 : Int32} {i : Nat} (b : Bool) (hf : b = false → post 0) (ht : b = true → J2 (nI (i + 1))) : wX_isPlan_45 post J2 x0 x1 x2 (nI i) (fd_b b) := by
  unfold wX_isPlan_45
  cases b with
  | false => exact br_t rfl (hf rfl)
  | true => exact br_f (by decide) (nm_r (nI_1 i) (ht rfl))
theorem fd_xipL {post : Int32 → Prop} {x mk : Int32} {c : Nat} {o : Nat → Bool} (hx : fd_PV x c) (hm : fd_MK mk o) (h : post (fd_b (fd_P o p c))) :
    ∀ d i, i + d = 5 → fd_ip o p c i = true → wX_isPlan_2 post x (nI p) mk (d + 1) (nI i) := by
  intro d
  induction d with
  | zero =>
    intro i hi hp
    have e : i = 5 := by omega
    subst e
    have h2 : fd_P o p c = true := hp
    rw [h2] at h
    exact br_t (by decide) h
  | succ d ih =>
    intro i hi hp
    have hi5 : i < 5 := by omega
    have hd := fd_dg_lt c i
    have key : wX_isPlan_45 post (wX_isPlan_2 post x (nI p) mk (d + 1)) x (nI p) mk (nI i) (fd_b (fd_ok o p c i)) := by
      apply fd_xip45
      · intro hb
        have e : fd_ip o p c (i + 1) = false := by
          show (fd_ip o p c i && fd_ok o p c i) = false
          rw [hb, Bool.and_false]
        have e5 := fd_ip_f e (5 - (i + 1))
        rw [show i + 1 + (5 - (i + 1)) = 5 by omega] at e5
        have h2 : fd_P o p c = false := e5
        rw [h2] at h
        exact h
      · intro hb
        refine ih (i + 1) (by omega) ?_
        show (fd_ip o p c i && fd_ok o p c i) = true
        rw [hp, hb]
        rfl
    refine br_f (lt5' i hi5) ?_
    refine fd_xmi hx hi5 ?_
    refine fd_xhasN p (by omega) ?_
    cases hb : p.testBit i with
    | false =>
      refine br_t rfl ?_
      have e : fd_ok o p c i = decide (fd_dg c i = 0) := by
        unfold fd_ok
        rw [hb]
        exact if_neg (by decide)
      by_cases h0 : fd_dg c i = 0
      · rw [e, decide_eq_true h0] at key
        exact br_t (by rw [h0]; exact nI_0) key
      · rw [e, decide_eq_false h0] at key
        exact br_f (nI_ne0 (by omega) (by omega)) key
    | true =>
      refine br_f (by decide) ?_
      have e : fd_ok o p c i = o (4 * i + fd_dg c i) := by
        unfold fd_ok
        rw [hb]
        exact if_pos rfl
      rw [fd_ixA]
      refine fd_xhas mk (by omega) ?_
      rw [hm _ (by omega), ← e]
      exact key
theorem fd_xip {post : Int32 → Prop} {x mk : Int32} {c : Nat} {o : Nat → Bool} (hx : fd_PV x c) (hm : fd_MK mk o) (h : post (fd_b (fd_P o p c))) : wpX_isPlan post x (nI p) mk :=
  ⟨5 + 1, fd_xipL hx hm h 5 0 rfl rfl⟩

theorem fd_xf98 {post : Int32 → Prop} {J27 : Int32 → Int32 → Prop} {x1 x2 x3 x4 x5 : Int32} {a : Nat → Int32} {s i t : Nat} (z : Bool) (hf : z = false → J27 (nI s) (nI (i + 1))) (ht : z = true → J27 (nI (s + t)) (nI (i + 1))) :
    wX_finishIn_98 post J27 x1 x2 x3 x4 x5 (nI s) (nI i) (nI t) (fd_b z) fm fe fp a := by
  unfold wX_finishIn_98
  cases z with
  | false => exact br_t rfl (nm_r (Int32.add_zero _) (nm_r (nI_1 i) (hf rfl)))
  | true => exact br_f (by decide) (nm_r (nI_add s t) (nm_r (nI_1 i) (ht rfl)))
theorem fd_xfinL {post : Int32 → Prop} {x : Int32} {c j : Nat} (hx : fd_PV x c) (hn : ∀ i, n i ≤ 15) (hj : j < 5) (h : post (nI (fd_fk n p c j 5))) :
    ∀ d i, i + d = 5 → wX_finishIn_27 post x (nI p) (nI j) (nI (fd_dg c j)) (nI (fd_tm n c j)) fm fe fp (fd_ti n) (d + 1) (nI (fd_fk n p c j i)) (nI i) := by
  intro d
  induction d with
  | zero =>
    intro i hi
    have e : i = 5 := by omega
    subst e
    exact br_t (by decide) h
  | succ d ih =>
    intro i hi
    have hi5 : i < 5 := by omega
    have hd1 := fd_dg_lt c i
    have hd2 := fd_dg_lt c j
    have ht1 : fd_tm n c i ≤ 15 := hn _
    have ht2 : fd_tm n c j ≤ 15 := hn _
    have k := ih (i + 1) (by omega)
    rw [fd_fk] at k
    have k0 : ¬ (p.testBit i = true ∧ i ≠ j ∧ fd_dg c i = fd_dg c j ∧ (fd_tm n c i < fd_tm n c j ∨ (fd_tm n c i = fd_tm n c j ∧ i < j))) → wX_finishIn_27 post x (nI p) (nI j) (nI (fd_dg c j)) (nI (fd_tm n c j)) fm fe fp (fd_ti n) (d + 1) (nI (fd_fk n p c j i)) (nI (i + 1)) := by
      intro hc
      rw [if_neg hc, Nat.add_zero] at k
      exact k
    have k1 : (p.testBit i = true ∧ i ≠ j ∧ fd_dg c i = fd_dg c j ∧ (fd_tm n c i < fd_tm n c j ∨ (fd_tm n c i = fd_tm n c j ∧ i < j))) → wX_finishIn_27 post x (nI p) (nI j) (nI (fd_dg c j)) (nI (fd_tm n c j)) fm fe fp (fd_ti n) (d + 1) (nI (fd_fk n p c j i + fd_tm n c i)) (nI (i + 1)) := by
      intro hc
      rw [if_pos hc] at k
      exact k
    refine br_f (lt5' i hi5) ?_
    by_cases hij : i = j
    · exact br_t (by rw [hij]) (nm_r (nI_1 i) (k0 (fun z => z.2.1 hij)))
    · refine br_f (fd_ne (by omega) (by omega) hij) ?_
      refine fd_xhasN p (by omega) ?_
      cases hb : p.testBit i with
      | false => exact br_t rfl (nm_r (nI_1 i) (k0 (fun z => absurd (hb.symm.trans z.1) (by decide))))
      | true =>
        refine br_f (by decide) ?_
        refine fd_xmi hx hi5 ?_
        by_cases hd : fd_dg c i = fd_dg c j
        · refine br_t (by rw [hd]) ?_
          have eix : nI i * 4 + nI (fd_dg c j) = nI (4 * i + fd_dg c i) := by rw [fd_ixA, hd]
          rw [eix]
          refine ⟨vp_in_nI (by omega) (by omega), ?_⟩
          refine nm_r (e' := nI (fd_tm n c i)) (fd_tic n (by omega)) ?_
          by_cases h1 : fd_tm n c i < fd_tm n c j
          · refine br_t (nI_lt h1 (by omega)) ?_
            exact fd_xf98 true (fun z => nomatch z) (fun _ => k1 ⟨hb, hij, hd, Or.inl h1⟩)
          · refine br_f (nI_nlt (by omega) (by omega)) ?_
            by_cases h2 : fd_tm n c i = fd_tm n c j
            · refine br_t (by rw [h2]) ?_
              by_cases h3 : j ≤ i
              · refine br_t (nI_le h3 (by omega)) ?_
                exact fd_xf98 false (fun _ => k0 (fun z => by have := z.2.2.2; omega)) (fun z => nomatch z)
              · refine br_f (nI_ge (by omega) (by omega)) ?_
                exact fd_xf98 true (fun z => nomatch z) (fun _ => k1 ⟨hb, hij, hd, Or.inr ⟨h2, by omega⟩⟩)
            · refine br_f (fd_ne (by omega) (by omega) h2) ?_
              exact fd_xf98 false (fun _ => k0 (fun z => by have := z.2.2.2; omega)) (fun z => nomatch z)
        · exact br_f (fd_ne (by omega) (by omega) hd) (nm_r (nI_1 i) (k0 (fun z => hd z.2.2.1)))
theorem fd_xfin {post : Int32 → Prop} {x : Int32} {c j : Nat} (hx : fd_PV x c) (hn : ∀ i, n i ≤ 15) (hj : j < 5) (h : post (nI (fd_fk n p c j 5))) :
    wpX_finishIn post (fm, fe, fp, fd_ti n) x (nI p) (nI j) := by
  have hd := fd_dg_lt c j
  unfold wpX_finishIn
  refine fd_xmi hx hj ?_
  rw [fd_ixA]
  refine ⟨vp_in_nI (by omega) (by omega), ?_⟩
  refine nm_r (e' := nI (fd_tm n c j)) (fd_tic n (by omega)) ?_
  exact ⟨5 + 1, fd_xfinL hx hn hj h 5 0 rfl⟩

theorem fd_xtotL {post : Int32 → Prop} {x : Int32} {c : Nat} (hx : fd_PV x c) (hn : ∀ i, n i ≤ 15) (h : post (nI (fd_T n p c))) :
    ∀ d i, i + d = 5 → wX_totalOf_5 post x (nI p) fm fe fp (fd_ti n) (d + 1) (nI (fd_tk n p c i)) (nI i) := by
  intro d
  induction d with
  | zero =>
    intro i hi
    have e : i = 5 := by omega
    subst e
    exact br_t (by decide) h
  | succ d ih =>
    intro i hi
    have hi5 : i < 5 := by omega
    have k := ih (i + 1) (by omega)
    rw [fd_tk] at k
    refine br_f (lt5' i hi5) ?_
    refine fd_xhasN p (by omega) ?_
    cases hb : p.testBit i with
    | false =>
      rw [hb, if_neg (by decide), Nat.add_zero] at k
      exact br_t rfl (nm_r (nI_1 i) k)
    | true =>
      rw [hb, if_pos rfl] at k
      refine br_f (by decide) ?_
      refine fd_xfin hx hn hi5 ?_
      exact nm_r (nI_add _ _) (nm_r (nI_1 i) k)
theorem fd_xtot {post : Int32 → Prop} {x : Int32} {c : Nat} (hx : fd_PV x c) (hn : ∀ i, n i ≤ 15) (h : post (nI (fd_T n p c))) : wpX_totalOf post (fm, fe, fp, fd_ti n) x (nI p) :=
  ⟨5 + 1, fd_xtotL hx hn h 5 0 rfl⟩

theorem fd_xfpL {post : Int32 → Prop} {mk : Int32} {o : Nat → Bool} (hn : ∀ i, n i ≤ 15) (hm : fd_MK mk o) (h : post (fd_e1 (fd_bo (fd_T n p) (fd_P o p) 1024))) :
    ∀ d i, i + d = 1024 → wX_firstPlan_8 post (nI p) mk fm fe fp (fd_ti n) (d + 1) (fd_e1 (fd_bo (fd_T n p) (fd_P o p) i)) (fd_e2 (fd_T n p) (fd_bo (fd_T n p) (fd_P o p) i)) (nI i) := by
  intro d
  induction d with
  | zero =>
    intro i hi
    have e : i = 1024 := by omega
    rw [e]
    exact br_t (by decide) h
  | succ d ih =>
    intro i hi
    have hi5 : i < 1024 := by omega
    have k := ih (i + 1) (by omega)
    refine br_f (nI_ge (b := 1024) hi5 (by decide)) ?_
    refine fd_xip (fd_pv hi5) hm ?_
    cases hP : fd_P o p i with
    | false =>
      rw [fd_bo_0 hP] at k
      exact br_t rfl (nm_r (nI_1 i) k)
    | true =>
      refine br_f (by decide) ?_
      refine fd_xtot (fd_pv hi5) hn ?_
      have ht := fd_T_lt hn p i
      cases hb : fd_bo (fd_T n p) (fd_P o p) i with
      | none =>
        rw [fd_bo_1 hP hb] at k
        exact br_t rfl (nm_r (nI_1 i) k)
      | some c =>
        have hc := (fd_bo_s _ _ hb).1
        have hu := fd_T_lt hn p c
        refine br_f (fd_nneg (by omega)) ?_
        by_cases hlt : fd_T n p i < fd_T n p c
        · rw [fd_bo_2 hP hb hlt] at k
          exact br_f (nI_ge hlt (by omega)) (nm_r (nI_1 i) k)
        · rw [fd_bo_3 hP hb hlt] at k
          exact br_t (nI_le (by omega) (by omega)) (nm_r (nI_1 i) k)
theorem fd_xfp {post : Int32 → Prop} {mk : Int32} {o : Nat → Bool} (hn : ∀ i, n i ≤ 15) (hm : fd_MK mk o) (h : post (fd_e1 (fd_bo (fd_T n p) (fd_P o p) 1024))) : wpX_firstPlan post (fm, fe, fp, fd_ti n) (nI p) mk :=
  ⟨1024 + 1, fd_xfpL hn hm h 1024 0 rfl⟩
theorem fd_xlt {post : Int32 → Prop} {mk : Int32} {o : Nat → Bool} (hn : ∀ i, n i ≤ 15) (hm : fd_MK mk o) (h : post (fd_e3 (fd_T n p) (fd_bo (fd_T n p) (fd_P o p) 1024))) : wpX_leastTotal post (fm, fe, fp, fd_ti n) (nI p) mk := by
  unfold wpX_leastTotal
  refine fd_xfp hn hm ?_
  cases hb : fd_bo (fd_T n p) (fd_P o p) 1024 with
  | none =>
    rw [hb] at h
    exact br_t rfl h
  | some c =>
    rw [hb] at h
    have hc := (fd_bo_s _ _ hb).1
    refine br_f (fd_nneg (by omega)) ?_
    exact fd_xtot (fd_pv hc) hn h

theorem fd_xooI {post : Int32 → Prop} {J4 : Int32 → Int32 → Prop} {al : Int32} {j : Nat} (hn : ∀ i, n i ≤ 15) (hj : j < 5) (h : J4 (fd_om n al (4 * (j + 1))) (nI (j + 1))) :
    ∀ d i, i + d = 4 → wX_optionsOn_12 post J4 al (nI j) fm fe fp (fd_ti n) (d + 1) (fd_om n al (4 * j + i)) (nI i) := by
  intro d
  induction d with
  | zero =>
    intro i hi
    have e : i = 4 := by omega
    subst e
    exact br_t (by decide) (nm_r (nI_1 j) h)
  | succ d ih =>
    intro i hi
    have hi4 : i < 4 := by omega
    have k := ih (i + 1) (by omega)
    have em : (4 * j + i) % 4 = i := by omega
    have hn1 := hn (4 * j + i)
    rw [show 4 * j + (i + 1) = 4 * j + i + 1 from rfl, fd_om, em] at k
    refine br_f (nI_ge (b := 4) hi4 (by decide)) ?_
    refine fd_xhas al (by omega) ?_
    cases hb : bt al i with
    | false =>
      rw [hb, if_neg (fun z => absurd z.1 (by decide))] at k
      exact br_t rfl (nm_r (nI_1 i) k)
    | true =>
      refine br_f (by decide) ?_
      rw [fd_ixA]
      refine ⟨vp_in_nI (by omega) (by omega), ?_⟩
      rw [fd_tic n (by omega)]
      by_cases h0 : n (4 * j + i) = 0
      · rw [if_neg (fun z => z.2 h0)] at k
        exact br_t (by rw [h0]; exact nI_0) (nm_r (nI_1 i) k)
      · rw [if_pos ⟨hb, h0⟩] at k
        refine br_f (nI_ne0 (by omega) (by omega)) ?_
        unfold wpX_optionBit
        rw [fd_ixA]
        exact nm_e (nm_r (nI_1 i) k)
theorem fd_xooO {post : Int32 → Prop} {al : Int32} (hn : ∀ i, n i ≤ 15) (h : post (fd_om n al 20)) :
    ∀ d i, i + d = 5 → wX_optionsOn_4 post al fm fe fp (fd_ti n) (d + 1) (fd_om n al (4 * i)) (nI i) := by
  intro d
  induction d with
  | zero =>
    intro i hi
    have e : i = 5 := by omega
    subst e
    exact br_t (by decide) h
  | succ d ih =>
    intro i hi
    exact br_f (lt5' i (by omega)) ⟨4 + 1, fd_xooI hn (by omega) (ih (i + 1) (by omega)) 4 0 rfl⟩
theorem fd_xoo {post : Int32 → Prop} {al : Int32} (hn : ∀ i, n i ≤ 15) (h : post (fd_om n al 20)) : wpX_optionsOn post (fm, fe, fp, fd_ti n) al :=
  ⟨5 + 1, fd_xooO hn h 5 0 rfl⟩

theorem fd_xjmL {post : Int32 → Prop} {x : Int32} {c m : Nat} {a : Nat → Int32} (hx : fd_PV x c) (hm : m < 4) (h : post (nI (fd_ck p c m 5))) :
    ∀ d i, i + d = 5 → wX_jobsOnMachine_5 post x (nI m) fm fe (nI p) a (d + 1) (nI (fd_ck p c m i)) (nI i) := by
  intro d
  induction d with
  | zero =>
    intro i hi
    have e : i = 5 := by omega
    subst e
    exact br_t (by decide) h
  | succ d ih =>
    intro i hi
    have hi5 : i < 5 := by omega
    have hd := fd_dg_lt c i
    have k := ih (i + 1) (by omega)
    rw [fd_ck] at k
    refine br_f (lt5' i hi5) ?_
    refine fd_xhasN p (by omega) ?_
    cases hb : p.testBit i with
    | false =>
      rw [if_neg (fun z => absurd (hb.symm.trans z.1) (by decide)), Nat.add_zero] at k
      exact br_t rfl (nm_r (nI_1 i) k)
    | true =>
      refine br_f (by decide) ?_
      refine fd_xmi hx hi5 ?_
      by_cases h0 : fd_dg c i = m
      · rw [if_pos ⟨hb, h0⟩] at k
        exact br_t (by rw [h0]) (nm_r (nI_1 _) (nm_r (nI_1 i) k))
      · rw [if_neg (fun z => h0 z.2), Nat.add_zero] at k
        exact br_f (fd_ne (by omega) (by omega) h0) (nm_r (nI_1 i) k)
theorem fd_xjm {post : Int32 → Prop} {x : Int32} {c m : Nat} {a : Nat → Int32} (hx : fd_PV x c) (hm : m < 4) (h : post (nI (fd_ck p c m 5))) : wpX_jobsOnMachine post (fm, fe, nI p, a) x (nI m) :=
  ⟨5 + 1, fd_xjmL hx hm h 5 0 rfl⟩

theorem fd_xmjL {post : Int32 → Prop} {mk L : Int32} {o : Nat → Bool} {m : Nat} (hn : ∀ i, n i ≤ 15) (hm : fd_MK mk o) (hm4 : m < 4) (h : post (nI (fd_mk (fd_T n p) (fd_P o p) L p m 1024))) :
    ∀ d i, i + d = 1024 → wX_mostJobs_35 post (nI m) mk L fm fe (nI p) (fd_ti n) (d + 1) (nI (fd_mk (fd_T n p) (fd_P o p) L p m i)) (nI i) := by
  intro d
  induction d with
  | zero =>
    intro i hi
    have e : i = 1024 := by omega
    rw [e]
    exact br_t (by decide) h
  | succ d ih =>
    intro i hi
    have hi5 : i < 1024 := by omega
    have k := ih (i + 1) (by omega)
    have hc := fd_ck_le p i m 5
    have hq := fd_mk_le (fd_T n p) (fd_P o p) L p m i
    rw [fd_mk] at k
    refine br_f (nI_ge (b := 1024) hi5 (by decide)) ?_
    refine fd_xip (fd_pv hi5) hm ?_
    cases hP : fd_P o p i with
    | false =>
      rw [if_neg (fun z => absurd (hP.symm.trans z.1) (by decide))] at k
      exact br_t rfl (nm_r (nI_1 i) k)
    | true =>
      refine br_f (by decide) ?_
      refine fd_xtot (fd_pv hi5) hn ?_
      by_cases hL : nI (fd_T n p i) = L
      · rw [if_pos ⟨hP, hL⟩] at k
        refine br_t hL ?_
        refine fd_xjm (fd_pv hi5) hm4 ?_
        by_cases hlt : fd_mk (fd_T n p) (fd_P o p) L p m i < fd_ck p i m 5
        · rw [if_pos hlt] at k
          exact br_f (nI_ge hlt (by omega)) (nm_r (nI_1 i) k)
        · rw [if_neg hlt] at k
          exact br_t (nI_le (by omega) (by omega)) (nm_r (nI_1 i) k)
      · rw [if_neg (fun z => hL z.2)] at k
        exact br_f hL (nm_r (nI_1 i) k)
end
end
section
/-! the reference's walks against the same picture -/
theorem fd_nb (b : Bool) : narrow .boolean (.int (fd_b b)) = .int (fd_b b) := by
  cases b <;> rfl
theorem fd_n0 : vp_nar .boolean 0 = 0 := rfl
theorem fd_n1 : vp_nar .boolean 1 = 1 := rfl
theorem fd_thc (p : Nat) {k : Nat} (h : k < 2 ^ 31) : fd_th p (nI k).toNatClampNeg = fd_b (p.testBit k) := by
  rw [nI_clamp h]
  rfl
section
variable {cr al mu mb : Int32} {n : Nat → Nat} {p : Nat}

theorem fd_yw86 {post : Int32 → SY → Prop} {J4 : Int32 → Int32 → (Nat → Int32) → (Nat → Int32) → (Nat → Int32) → Prop} {x1 : Int32} {ti on : Nat → Int32} {i d : Nat} (b z : Bool) (hi : i < 5) (hd : d < 4) (hon : on i = nI d)
    (h : J4 (fd_b (b && (if p.testBit i = true then z else decide (d = 0)))) (nI (i + 1)) (fd_th p) ti on) : wY_way_86 post J4 x1 (fd_b b) (nI i) (fd_b z) cr al mu mb (fd_th p) ti on := by
  unfold wY_way_86
  cases b with
  | false =>
    rw [Bool.false_and] at h
    exact br_t rfl (nm_r (nI_1 i) h)
  | true =>
    rw [Bool.true_and] at h
    refine br_f (by decide) ⟨vp_in_nI hi (by omega), ?_⟩
    rw [fd_thc p (by omega), nI_clamp (n := i) (by omega), hon]
    cases hb : p.testBit i with
    | false =>
      rw [hb, if_neg (by decide)] at h
      refine br_t rfl ⟨vp_in_nI hi (by omega), ?_⟩
      by_cases h0 : d = 0
      · rw [decide_eq_true h0] at h
        exact br_t (by rw [h0]; exact nI_0) (nm_r (nI_1 i) h)
      · rw [decide_eq_false h0] at h
        exact br_f (nI_ne0 (by omega) (by omega)) (nm_r (nI_1 i) h)
    | true =>
      rw [hb, if_pos rfl] at h
      refine br_f (by decide) ?_
      cases z with
      | false => exact br_t rfl (nm_r (nI_1 i) h)
      | true => exact br_f (by decide) (nm_r (nI_1 i) h)
theorem fd_ywL {post : Int32 → SY → Prop} {c : Nat} (hn : ∀ i, n i ≤ 15) (hc : c < 1024)
    (h : ∀ on : Nat → Int32, (∀ k, k < 5 → on k = nI (fd_dg c k)) → post (fd_b (fd_P (fd_op n al mu mb) p c)) (cr, al, mu, mb, fd_th p, fd_ti n, on)) :
    ∀ d i (on : Nat → Int32), i + d = 5 → (∀ k, k < i → on k = nI (fd_dg c k)) → wY_way_4 post (nI c) cr al mu mb (d + 1) (fd_b (fd_ip (fd_op n al mu mb) p c i)) (nI i) (fd_th p) (fd_ti n) on := by
  intro d
  induction d with
  | zero =>
    intro i on hi hon
    have e : i = 5 := by omega
    subst e
    exact br_t (by decide) ⟨fd_nb _, h on hon⟩
  | succ d ih =>
    intro i on hi hon
    have hi5 : i < 5 := by omega
    have hd := fd_dg_lt c i
    have hn1 := hn (4 * i + fd_dg c i)
    have hon2 : ∀ k, k < i + 1 → upd on i (nI (fd_dg c i)) k = nI (fd_dg c k) := by
      intro k hk
      by_cases e : k = i
      · rw [e]; exact pk_us
      · rw [pk_un e]; exact hon k (by omega)
    have key : ∀ z : Bool, z = fd_op n al mu mb (4 * i + fd_dg c i) → wY_way_86 post (wY_way_4 post (nI c) cr al mu mb (d + 1)) (nI c) (fd_b (fd_ip (fd_op n al mu mb) p c i)) (nI i) (fd_b z) cr al mu mb (fd_th p) (fd_ti n) (upd on i (nI (fd_dg c i))) := by
      intro z hz
      refine fd_yw86 _ z hi5 hd pk_us ?_
      rw [hz]
      exact ih (i + 1) _ (by omega) hon2
    have em : (4 * i + fd_dg c i) % 4 = fd_dg c i := by omega
    have eq : (4 * i + fd_dg c i) / 4 = i := by omega
    unfold fd_op at key
    rw [em, eq] at key
    refine br_f (lt5' i hi5) ⟨vp_in_nI hi5 (by omega), ?_⟩
    refine nm_r (e' := upd on i (nI (fd_dg c i))) (by rw [nI_clamp (n := i) (by omega), fd_dgY hc hi5]) ?_
    have eon : upd on i (nI (fd_dg c i)) (nI i).toNatClampNeg = nI (fd_dg c i) := by
      rw [nI_clamp (n := i) (by omega)]
      exact pk_us
    rw [eon, fd_ixB]
    refine ⟨vp_in_nI hi5 (by omega), vp_in_nI (by omega) (by omega), ?_⟩
    rw [fd_tic n (by omega)]
    by_cases h0 : n (4 * i + fd_dg c i) = 0
    · refine br_t (by rw [h0]; decide) ?_
      refine key false ?_
      rw [h0]
      simp
    · refine br_f (nI_nle (by omega) (by omega)) ⟨vp_in_nI hi5 (by omega), ?_⟩
      rw [fd_has al (by omega)]
      cases hb : bt al (fd_dg c i) with
      | false =>
        refine br_f (by decide) ?_
        refine key false ?_
        rw [hb]
        simp
      | true =>
        refine br_t rfl ?_
        by_cases hmu : nI i = mu
        · refine br_t hmu ⟨vp_in_nI hi5 (by omega), ?_⟩
          by_cases hmb : nI (fd_dg c i) = mb
          · refine br_t hmb ?_
            refine key true ?_
            rw [hb]
            simp [h0, hmb]
          · refine br_f hmb ?_
            refine key false ?_
            rw [hb]
            simp [h0, hmb, hmu]
        · refine br_f hmu ?_
          refine key true ?_
          rw [hb]
          simp [h0, hmu]
theorem fd_yway {post : Int32 → SY → Prop} {c : Nat} {on0 : Nat → Int32} (hn : ∀ i, n i ≤ 15) (hc : c < 1024)
    (h : ∀ on : Nat → Int32, (∀ k, k < 5 → on k = nI (fd_dg c k)) → post (fd_b (fd_P (fd_op n al mu mb) p c)) (cr, al, mu, mb, fd_th p, fd_ti n, on)) :
    wpY_way post (cr, al, mu, mb, fd_th p, fd_ti n, on0) (nI c) :=
  ⟨5 + 1, fd_ywL hn hc h 5 0 on0 rfl (fun k hk => absurd hk (Nat.not_lt_zero k))⟩

theorem fd_yf69 {post : Int32 → Prop} {J : Int32 → Int32 → Prop} {x2 : Int32} {ti on : Nat → Int32} {i j di dj s t : Nat} (z : Bool) (hi : i < 5) (hj : j < 5) (hdi : di < 4) (hdj : dj < 4) (hoi : on i = nI di) (hoj : on j = nI dj)
    (k0 : ¬ (p.testBit i = true ∧ i ≠ j ∧ di = dj ∧ z = true) → J (nI s) (nI (i + 1))) (k1 : (p.testBit i = true ∧ i ≠ j ∧ di = dj ∧ z = true) → J (nI (s + t)) (nI (i + 1))) :
    wY_finish_69 post J (nI j) x2 (nI s) (nI i) (nI t) (fd_b z) cr al mu mb (fd_th p) ti on := by
  unfold wY_finish_69
  refine ⟨vp_in_nI hi (by omega), ?_⟩
  rw [fd_thc p (by omega), nI_clamp (n := i) (by omega), nI_clamp (n := j) (by omega), hoi, hoj]
  cases hb : p.testBit i with
  | false => exact br_t rfl (nm_r (Int32.add_zero _) (nm_r (nI_1 i) (k0 (fun w => absurd (hb.symm.trans w.1) (by decide)))))
  | true =>
    refine br_f (by decide) ?_
    by_cases hij : i = j
    · exact br_t (by rw [hij]) (nm_r (Int32.add_zero _) (nm_r (nI_1 i) (k0 (fun w => w.2.1 hij))))
    · refine br_f (fd_ne (by omega) (by omega) hij) ⟨vp_in_nI hi (by omega), vp_in_nI hj (by omega), ?_⟩
      by_cases hd : di = dj
      · refine br_t (by rw [hd]) ?_
        cases z with
        | false => exact br_t rfl (nm_r (Int32.add_zero _) (nm_r (nI_1 i) (k0 (fun w => absurd w.2.2.2 (by decide)))))
        | true => exact br_f (by decide) (nm_r (nI_add s t) (nm_r (nI_1 i) (k1 ⟨hb, hij, hd, rfl⟩)))
      · exact br_f (fd_ne (by omega) (by omega) hd) (nm_r (Int32.add_zero _) (nm_r (nI_1 i) (k0 (fun w => hd w.2.2.1))))
theorem fd_yfinL {post : Int32 → Prop} {c j : Nat} {on : Nat → Int32} (hn : ∀ i, n i ≤ 15) (hj : j < 5) (hon : ∀ k, k < 5 → on k = nI (fd_dg c k)) (h : post (nI (fd_fk n p c j 5))) :
    ∀ d i, i + d = 5 → wY_finish_21 post (nI j) (nI (fd_tm n c j)) cr al mu mb (fd_th p) (fd_ti n) on (d + 1) (nI (fd_fk n p c j i)) (nI i) := by
  intro d
  induction d with
  | zero =>
    intro i hi
    have e : i = 5 := by omega
    subst e
    exact br_t (by decide) h
  | succ d ih =>
    intro i hi
    have hi5 : i < 5 := by omega
    have hd1 := fd_dg_lt c i
    have hd2 := fd_dg_lt c j
    have ht1 : fd_tm n c i ≤ 15 := hn _
    have ht2 : fd_tm n c j ≤ 15 := hn _
    have k := ih (i + 1) (by omega)
    rw [fd_fk] at k
    have key : ∀ z : Bool, (z = true ↔ (fd_tm n c i < fd_tm n c j ∨ (fd_tm n c i = fd_tm n c j ∧ i < j))) → wY_finish_69 post (wY_finish_21 post (nI j) (nI (fd_tm n c j)) cr al mu mb (fd_th p) (fd_ti n) on (d + 1)) (nI j) (nI (fd_tm n c j)) (nI (fd_fk n p c j i)) (nI i) (nI (fd_tm n c i)) (fd_b z) cr al mu mb (fd_th p) (fd_ti n) on := by
      intro z hz
      refine fd_yf69 z hi5 hj hd1 hd2 (hon i hi5) (hon j hj) ?_ ?_
      · intro w
        rw [if_neg (fun v => w ⟨v.1, v.2.1, v.2.2.1, hz.mpr v.2.2.2⟩), Nat.add_zero] at k
        exact k
      · intro w
        rw [if_pos ⟨w.1, w.2.1, w.2.2.1, hz.mp w.2.2.2⟩] at k
        exact k
    have eon : on (nI i).toNatClampNeg = nI (fd_dg c i) := by
      rw [nI_clamp (n := i) (by omega)]
      exact hon i hi5
    refine br_f (lt5' i hi5) ?_
    rw [eon, fd_ixB]
    refine ⟨vp_in_nI hi5 (by omega), vp_in_nI (by omega) (by omega), ?_⟩
    refine nm_r (e' := nI (fd_tm n c i)) (fd_tic n (by omega)) ?_
    by_cases h1 : fd_tm n c i < fd_tm n c j
    · exact br_t (nI_lt h1 (by omega)) (key true ⟨fun _ => Or.inl h1, fun _ => rfl⟩)
    · refine br_f (nI_nlt (by omega) (by omega)) ?_
      by_cases h2 : fd_tm n c i = fd_tm n c j
      · refine br_t (by rw [h2]) ?_
        by_cases h3 : j ≤ i
        · exact br_t (nI_le h3 (by omega)) (key false ⟨(fun w => nomatch w), fun w => absurd w (by omega)⟩)
        · exact br_f (nI_ge (by omega) (by omega)) (key true ⟨fun _ => Or.inr ⟨h2, by omega⟩, fun _ => rfl⟩)
      · exact br_f (fd_ne (by omega) (by omega) h2) (key false ⟨(fun w => nomatch w), fun w => absurd w (by omega)⟩)
theorem fd_yfin {post : Int32 → Prop} {c j : Nat} {on : Nat → Int32} (hn : ∀ i, n i ≤ 15) (hj : j < 5) (hon : ∀ k, k < 5 → on k = nI (fd_dg c k)) (h : post (nI (fd_fk n p c j 5))) :
    wpY_finish post (cr, al, mu, mb, fd_th p, fd_ti n, on) (nI j) := by
  have hd := fd_dg_lt c j
  have eon : on (nI j).toNatClampNeg = nI (fd_dg c j) := by
    rw [nI_clamp (n := j) (by omega)]
    exact hon j hj
  unfold wpY_finish
  dsimp only
  rw [eon, fd_ixB]
  refine ⟨vp_in_nI hj (by omega), vp_in_nI (by omega) (by omega), ?_⟩
  refine nm_r (e' := nI (fd_tm n c j)) (fd_tic n (by omega)) ?_
  exact ⟨5 + 1, fd_yfinL hn hj hon h 5 0 rfl⟩

theorem fd_ysumL {post : Int32 → Prop} {c : Nat} {on : Nat → Int32} (hn : ∀ i, n i ≤ 15) (hon : ∀ k, k < 5 → on k = nI (fd_dg c k)) (h : post (nI (fd_T n p c))) :
    ∀ d i, i + d = 5 → wY_sum_4 post cr al mu mb (fd_th p) (fd_ti n) on (d + 1) (nI (fd_tk n p c i)) (nI i) := by
  intro d
  induction d with
  | zero =>
    intro i hi
    have e : i = 5 := by omega
    subst e
    exact br_t (by decide) h
  | succ d ih =>
    intro i hi
    have hi5 : i < 5 := by omega
    have k := ih (i + 1) (by omega)
    rw [fd_tk] at k
    refine br_f (lt5' i hi5) ⟨vp_in_nI hi5 (by omega), ?_⟩
    rw [fd_thc p (by omega)]
    cases hb : p.testBit i with
    | false =>
      rw [hb, if_neg (by decide), Nat.add_zero] at k
      exact br_t rfl (nm_r (Int32.add_zero _) (nm_r (nI_1 i) k))
    | true =>
      rw [hb, if_pos rfl] at k
      refine br_f (by decide) ?_
      refine fd_yfin hn hi5 hon ?_
      exact nm_r (nI_add _ _) (nm_r (nI_1 i) k)
theorem fd_ysum {post : Int32 → Prop} {c : Nat} {on : Nat → Int32} (hn : ∀ i, n i ≤ 15) (hon : ∀ k, k < 5 → on k = nI (fd_dg c k)) (h : post (nI (fd_T n p c))) : wpY_sum post (cr, al, mu, mb, fd_th p, fd_ti n, on) :=
  ⟨5 + 1, fd_ysumL hn hon h 5 0 rfl⟩

theorem fd_yloL {post : Int32 → SY → Prop} (hn : ∀ i, n i ≤ 15)
    (h : ∀ on : Nat → Int32, post (fd_e3 (fd_T n p) (fd_bo (fd_T n p) (fd_P (fd_op n al mu mb) p) 1024)) (cr, al, mu, mb, fd_th p, fd_ti n, on)) :
    ∀ d i (on : Nat → Int32), i + d = 1024 → wY_leastOf_21 post (d + 1) (fd_e3 (fd_T n p) (fd_bo (fd_T n p) (fd_P (fd_op n al mu mb) p) i)) (nI i) cr al mu mb (fd_th p) (fd_ti n) on := by
  intro d
  induction d with
  | zero =>
    intro i on hi
    have e : i = 1024 := by omega
    rw [e]
    exact br_t (by decide) (h on)
  | succ d ih =>
    intro i on0 hi
    have hi5 : i < 1024 := by omega
    refine br_f (nI_ge (b := 1024) hi5 (by decide)) ?_
    refine fd_yway hn hi5 ?_
    intro on hon
    have k := ih (i + 1) on (by omega)
    cases hP : fd_P (fd_op n al mu mb) p i with
    | false =>
      rw [fd_bo_0 hP] at k
      exact br_t rfl (nm_r (nI_1 i) k)
    | true =>
      refine br_f (by decide) ?_
      refine fd_ysum hn hon ?_
      have ht := fd_T_lt hn p i
      cases hb : fd_bo (fd_T n p) (fd_P (fd_op n al mu mb) p) i with
      | none =>
        rw [fd_bo_1 hP hb] at k
        exact br_t (by decide : (-1 : Int32) < 0) (nm_r (nI_1 i) k)
      | some c =>
        have hu := fd_T_lt hn p c
        refine br_f (nI_pos (by omega)) ?_
        by_cases hlt : fd_T n p i < fd_T n p c
        · rw [fd_bo_2 hP hb hlt] at k
          exact br_f (nI_ge hlt (by omega)) (nm_r (nI_1 i) k)
        · rw [fd_bo_3 hP hb hlt] at k
          exact br_t (nI_le (by omega) (by omega)) (nm_r (nI_1 i) k)
theorem fd_ylo {post : Int32 → SY → Prop} {al0 mu0 mb0 : Int32} {on0 : Nat → Int32} (hn : ∀ i, n i ≤ 15)
    (h : ∀ on : Nat → Int32, post (fd_e3 (fd_T n p) (fd_bo (fd_T n p) (fd_P (fd_op n al mu mb) p) 1024)) (cr, al, mu, mb, fd_th p, fd_ti n, on)) :
    wpY_leastOf post (cr, al0, mu0, mb0, fd_th p, fd_ti n, on0) al mu mb :=
  ⟨1024 + 1, fd_yloL hn h 1024 0 on0 rfl⟩

theorem fd_yplL {post : SY → Prop} (hn : ∀ i, n i ≤ 15)
    (h : ∀ on : Nat → Int32, (∀ k, k < 5 → on k = nI (fd_dg (fd_gd (fd_bo (fd_T n p) (fd_P (fd_op n al mu mb) p) 1024)) k)) → post (cr, al, mu, mb, fd_th p, fd_ti n, on)) :
    ∀ d i (on : Nat → Int32), i + d = fd_gd (fd_bo (fd_T n p) (fd_P (fd_op n al mu mb) p) 1024) → wY_plan_13 post (fd_e3 (fd_T n p) (fd_bo (fd_T n p) (fd_P (fd_op n al mu mb) p) 1024)) (d + 1 + 1) (nI i) cr al mu mb (fd_th p) (fd_ti n) on := by
  have hg := fd_gd_lt (T := fd_T n p) (P := fd_P (fd_op n al mu mb) p)
  cases hb : fd_bo (fd_T n p) (fd_P (fd_op n al mu mb) p) 1024 with
  | none =>
    rw [hb] at h hg
    have hf := fd_bo_n _ hb
    intro d
    induction d with
    | zero =>
      intro i on0 hi
      have e : i = 1023 := hi
      subst e
      refine br_f (by decide) ?_
      refine fd_yway hn (by decide) ?_
      intro on hon
      rw [hf 1023 (by decide)]
      refine br_t rfl (nm_r (nI_1 1023) ?_)
      exact br_t (by decide) (h on hon)
    | succ d ih =>
      intro i on0 hi
      have hi2 : i + (d + 1) = 1023 := hi
      have hi5 : i < 1024 := by omega
      refine br_f (nI_ge (b := 1024) hi5 (by decide)) ?_
      refine fd_yway hn hi5 ?_
      intro on hon
      rw [hf i hi5]
      refine br_t rfl (nm_r (nI_1 i) ?_)
      exact ih (i + 1) on (by show i + 1 + d = 1023; omega)
  | some c =>
    rw [hb] at h hg
    obtain ⟨hc, hPc, hmin, hfirst⟩ := fd_bo_s _ _ hb
    have hu := fd_T_lt hn p c
    intro d
    induction d with
    | zero =>
      intro i on0 hi
      have e : i = c := hi
      subst e
      refine br_f (nI_ge (b := 1024) hc (by decide)) ?_
      refine fd_yway hn hc ?_
      intro on hon
      rw [hPc]
      refine br_f (by decide) ?_
      refine fd_ysum hn hon ?_
      exact br_t rfl (h on hon)
    | succ d ih =>
      intro i on0 hi
      have hi2 : i + (d + 1) = c := hi
      have hi5 : i < 1024 := by omega
      have ht := fd_T_lt hn p i
      refine br_f (nI_ge (b := 1024) hi5 (by decide)) ?_
      refine fd_yway hn hi5 ?_
      intro on hon
      have k := ih (i + 1) on (by show i + 1 + d = c; omega)
      cases hP : fd_P (fd_op n al mu mb) p i with
      | false => exact br_t rfl (nm_r (nI_1 i) k)
      | true =>
        refine br_f (by decide) ?_
        refine fd_ysum hn hon ?_
        have hl := hfirst i (by omega) hP
        exact br_f (fd_ne (by omega) (by omega) (by omega)) (nm_r (nI_1 i) k)

theorem fd_ymjI {post : Int32 → SY → Prop} {J : Int32 → Int32 → Int32 → Int32 → Int32 → Int32 → (Nat → Int32) → (Nat → Int32) → (Nat → Int32) → Prop} {x2 : Int32} {ti on : Nat → Int32} {c m q i4 : Nat} (hm : m < 4) (hq : q ≤ 5) (hon : ∀ k, k < 5 → on k = nI (fd_dg c k))
    (h : J (nI (if q < fd_ck p c m 5 then fd_ck p c m 5 else q)) (nI (i4 + 1)) cr al mu mb (fd_th p) ti on) :
    ∀ d i, i + d = 5 → wY_mostJobs_57 post J (nI m) x2 (nI q) (nI i4) cr al mu mb (fd_th p) ti on (d + 1) (nI (fd_ck p c m i)) (nI i) := by
  intro d
  induction d with
  | zero =>
    intro i hi
    have e : i = 5 := by omega
    subst e
    have hc := fd_ck_le p c m 5
    refine br_t (by decide) ?_
    unfold wY_mostJobs_100
    by_cases hlt : q < fd_ck p c m 5
    · rw [if_pos hlt] at h
      exact br_f (nI_ge hlt (by omega)) (nm_r (nI_1 i4) h)
    · rw [if_neg hlt] at h
      exact br_t (nI_le (by omega) (by omega)) (nm_r (nI_1 i4) h)
  | succ d ih =>
    intro i hi
    have hi5 : i < 5 := by omega
    have hd := fd_dg_lt c i
    have k := ih (i + 1) (by omega)
    rw [fd_ck] at k
    refine br_f (lt5' i hi5) ⟨vp_in_nI hi5 (by omega), ?_⟩
    rw [fd_thc p (by omega), nI_clamp (n := i) (by omega), hon i hi5]
    cases hb : p.testBit i with
    | false =>
      rw [if_neg (fun z => absurd (hb.symm.trans z.1) (by decide)), Nat.add_zero] at k
      exact br_t rfl (nm_r (Int32.add_zero _) (nm_r (nI_1 i) k))
    | true =>
      refine br_f (by decide) ⟨vp_in_nI hi5 (by omega), ?_⟩
      by_cases h0 : fd_dg c i = m
      · rw [if_pos ⟨hb, h0⟩] at k
        exact br_t (by rw [h0]) (nm_r (nI_1 _) (nm_r (nI_1 i) k))
      · rw [if_neg (fun z => h0 z.2), Nat.add_zero] at k
        exact br_f (fd_ne (by omega) (by omega) h0) (nm_r (Int32.add_zero _) (nm_r (nI_1 i) k))
theorem fd_ymjL {post : Int32 → SY → Prop} {L : Int32} {m : Nat} (hn : ∀ i, n i ≤ 15) (hm : m < 4)
    (h : ∀ on : Nat → Int32, post (nI (fd_mk (fd_T n p) (fd_P (fd_op n al mu mb) p) L p m 1024)) (cr, al, mu, mb, fd_th p, fd_ti n, on)) :
    ∀ d i (on : Nat → Int32), i + d = 1024 → wY_mostJobs_26 post (nI m) L (d + 1) (nI (fd_mk (fd_T n p) (fd_P (fd_op n al mu mb) p) L p m i)) (nI i) cr al mu mb (fd_th p) (fd_ti n) on := by
  intro d
  induction d with
  | zero =>
    intro i on hi
    have e : i = 1024 := by omega
    rw [e]
    exact br_t (by decide) (h on)
  | succ d ih =>
    intro i on0 hi
    have hi5 : i < 1024 := by omega
    have hq := fd_mk_le (fd_T n p) (fd_P (fd_op n al mu mb) p) L p m i
    refine br_f (nI_ge (b := 1024) hi5 (by decide)) ?_
    refine fd_yway hn hi5 ?_
    intro on hon
    have k := ih (i + 1) on (by omega)
    rw [fd_mk] at k
    cases hP : fd_P (fd_op n al mu mb) p i with
    | false =>
      rw [if_neg (fun z => absurd (hP.symm.trans z.1) (by decide))] at k
      refine br_t rfl ?_
      unfold wY_mostJobs_100
      exact br_t (nI_pos' (by omega)) (nm_r (nI_1 i) k)
    | true =>
      refine br_f (by decide) ?_
      refine fd_ysum hn hon ?_
      by_cases hL : nI (fd_T n p i) = L
      · rw [if_pos ⟨hP, hL⟩] at k
        exact br_t hL ⟨5 + 1, fd_ymjI hm hq hon k 5 0 rfl⟩
      · rw [if_neg (fun z => hL z.2)] at k
        refine br_f hL ?_
        unfold wY_mostJobs_100
        exact br_t (nI_pos' (by omega)) (nm_r (nI_1 i) k)
end
end
section
/-! the tests of a job's and a machine's number, the small loops of both sides -/
def fd_NJ (p : Nat) (v : Int32) : Prop := v < 0 ∨ nI 5 ≤ v ∨ ∃ j, j < 5 ∧ v = nI j ∧ p.testBit j = false
theorem fd_jobC (p : Nat) (v : Int32) : (∃ j, j < 5 ∧ v = nI j ∧ p.testBit j = true) ∨ fd_NJ p v := by
  rcases pk_ix v (n := 5) (by decide) with h | h | ⟨j, hj, e⟩
  · exact Or.inr (Or.inl h)
  · exact Or.inr (Or.inr (Or.inl h))
  · cases hb : p.testBit j with
    | false => exact Or.inr (Or.inr (Or.inr ⟨j, hj, e, hb⟩))
    | true => exact Or.inl ⟨j, hj, e, hb⟩
def fd_NM (w : Nat) (v : Int32) : Prop := v < 0 ∨ nI w ≤ v
theorem fd_maC {w : Nat} (hw : w ≤ 3) (v : Int32) : (∃ m, m < w ∧ v = nI m) ∨ fd_NM w v := by
  rcases pk_ix v (n := w) (by omega) with h | h | ⟨j, hj, e⟩
  · exact Or.inr (Or.inl h)
  · exact Or.inr (Or.inr h)
  · exact Or.inl ⟨j, hj, e⟩
theorem fd_nn {w : Nat} {v : Int32} (hw : w < 2 ^ 31) (h : nI w ≤ v) : ¬ v < 0 := Int32.not_lt.mpr (Int32.le_trans (nI_pos' hw) h)
section
variable {fm fe fp cr al mu mb : Int32} {a th ti on : Nat → Int32} {n : Nat → Nat} {p w : Nat}

theorem fd_xjob1 {post : Int32 → Prop} {j : Nat} (hj : j < 5) (hb : p.testBit j = true) (h : post 1) : wpX_isJob post (fm, fe, nI p, a) (nI j) := by
  unfold wpX_isJob
  refine br_f (nI_pos (by omega)) (br_f (lt5' j hj) ?_)
  refine fd_xhasN p (by omega) ?_
  rw [hb]
  exact br_f (by decide) h
theorem fd_xjob0 {post : Int32 → Prop} {v : Int32} (hv : fd_NJ p v) (h : post 0) : wpX_isJob post (fm, fe, nI p, a) v := by
  unfold wpX_isJob
  rcases hv with h1 | h1 | ⟨j, hj, rfl, hb⟩
  · exact br_t h1 h
  · exact br_f (fd_nn (by decide) h1) (br_t h1 h)
  · refine br_f (nI_pos (by omega)) (br_f (lt5' j hj) ?_)
    refine fd_xhasN p (by omega) ?_
    rw [hb]
    exact br_t rfl h
theorem fd_yis1 {post : Int32 → Prop} {j : Nat} (hj : j < 5) (hb : p.testBit j = true) (h : post 1) : wpY_is post (cr, al, mu, mb, fd_th p, ti, on) (nI j) := by
  unfold wpY_is
  refine br_f (nI_pos (by omega)) (br_f (lt5' j hj) ⟨vp_in_nI hj (by omega), ?_⟩)
  rw [fd_thc p (by omega), hb]
  exact br_f (by decide) h
theorem fd_yis0 {post : Int32 → Prop} {v : Int32} (hv : fd_NJ p v) (h : post 0) : wpY_is post (cr, al, mu, mb, fd_th p, ti, on) v := by
  unfold wpY_is
  rcases hv with h1 | h1 | ⟨j, hj, rfl, hb⟩
  · exact br_t h1 h
  · exact br_f (fd_nn (by decide) h1) (br_t h1 h)
  · refine br_f (nI_pos (by omega)) (br_f (lt5' j hj) ⟨vp_in_nI hj (by omega), ?_⟩)
    rw [fd_thc p (by omega), hb]
    exact br_t rfl h
theorem fd_xma1 {post : Int32 → Prop} {m : Nat} (hm : m < w) (hw : w ≤ 3) (h : post 1) : wpX_isMachine post (nI w, fe, fp, a) (nI m) := by
  unfold wpX_isMachine
  exact br_f (nI_pos (by omega)) (br_f (nI_ge hm (by omega)) h)
theorem fd_xma0 {post : Int32 → Prop} {v : Int32} (hw : w ≤ 3) (hv : fd_NM w v) (h : post 0) : wpX_isMachine post (nI w, fe, fp, a) v := by
  unfold wpX_isMachine
  rcases hv with h1 | h1
  · exact br_t h1 h
  · exact br_f (fd_nn (by omega) h1) (br_t h1 h)
theorem fd_yma1 {post : Int32 → Prop} {m : Nat} (hm : m < w) (hw : w ≤ 3) (h : post 1) : wpY_machine post (nI w, al, mu, mb, th, ti, on) (nI m) := by
  unfold wpY_machine
  exact br_f (nI_pos (by omega)) (br_f (nI_ge hm (by omega)) h)
theorem fd_yma0 {post : Int32 → Prop} {v : Int32} (hw : w ≤ 3) (hv : fd_NM w v) (h : post 0) : wpY_machine post (nI w, al, mu, mb, th, ti, on) v := by
  unfold wpY_machine
  rcases hv with h1 | h1
  · exact br_t h1 h
  · exact br_f (fd_nn (by omega) h1) (br_t h1 h)

/-! jobs -/
def fd_js (p : Nat) : Nat → Int32
  | 0 => 0
  | k + 1 => if p.testBit k = true then fd_js p k ||| ((1 : Int32) <<< (nI k &&& 31)) else fd_js p k
theorem fd_js5 : ∀ p, p < 32 → fd_js p 5 = nI p := by decide +kernel
theorem fd_yjL {post : Int32 → Prop} (h : post (fd_js p 5)) : ∀ d i, i + d = 5 → wY_jobs_4 post cr al mu mb (fd_th p) ti on (d + 1) (fd_js p i) (nI i) := by
  intro d
  induction d with
  | zero =>
    intro i hi
    have e : i = 5 := by omega
    subst e
    exact br_t (by decide) h
  | succ d ih =>
    intro i hi
    have hi5 : i < 5 := by omega
    have k := ih (i + 1) (by omega)
    rw [fd_js] at k
    refine br_f (lt5' i hi5) ⟨vp_in_nI hi5 (by omega), ?_⟩
    rw [fd_thc p (by omega)]
    cases hb : p.testBit i with
    | false =>
      rw [hb, if_neg (by decide)] at k
      exact br_t rfl (nm_r (Int32.or_zero) (nm_r (nI_1 i) k))
    | true =>
      rw [hb, if_pos rfl] at k
      exact br_f (by decide) (nm_e (nm_r (nI_1 i) k))

/-! the further machine -/
def fd_cp (n : Nat → Nat) (m : Nat) : Nat → (Nat → Nat)
  | 0 => n
  | k + 1 => fd_up (fd_cp n m k) (4 * k + 3) (fd_cp n m k (4 * k + m))
theorem fd_cp_le (hn : ∀ i, n i ≤ 15) (m : Nat) : ∀ k i, fd_cp n m k i ≤ 15 := by
  intro k
  induction k with
  | zero => exact hn
  | succ k ih => exact fd_up_le ih (ih _)
theorem fd_cp_z (m : Nat) (hz : ∀ j c, w ≤ c → c < 3 → n (4 * j + c) = 0) : ∀ k j c, w ≤ c → c < 3 → fd_cp n m k (4 * j + c) = 0 := by
  intro k
  induction k with
  | zero => exact hz
  | succ k ih =>
    intro j c h1 h2
    show fd_up (fd_cp n m k) (4 * k + 3) (fd_cp n m k (4 * k + m)) (4 * j + c) = 0
    unfold fd_up
    rw [if_neg (by omega)]
    exact ih j c h1 h2
theorem fd_xcpL {post : SX → Prop} {m : Nat} (hm : m < 4) (h : post (fm, fe, fp, fd_ti (fd_cp n m 5))) : ∀ d i, i + d = 5 → wX_copyToSpare_2 post (nI m) fm fe fp (d + 1) (nI i) (fd_ti (fd_cp n m i)) := by
  intro d
  induction d with
  | zero =>
    intro i hi
    have e : i = 5 := by omega
    subst e
    exact br_t (by decide) h
  | succ d ih =>
    intro i hi
    have hi5 : i < 5 := by omega
    have k := ih (i + 1) (by omega)
    have e3 : nI i * 4 + 3 = nI (4 * i + 3) := fd_ixA i 3
    refine br_f (lt5' i hi5) ?_
    rw [fd_ixA, e3]
    refine ⟨vp_in_nI (by omega) (by omega), vp_in_nI (by omega) (by omega), ?_⟩
    refine nm_r (e' := fd_ti (fd_cp n m (i + 1))) ?_ (nm_r (nI_1 i) k)
    rw [fd_tic _ (by omega), nI_clamp (n := 4 * i + 3) (by omega), fd_ti_up]
    rfl
theorem fd_xcp {post : SX → Prop} {m : Nat} (hm : m < 4) (h : post (fm, fe, fp, fd_ti (fd_cp n m 5))) : wpX_copyToSpare post (fm, fe, fp, fd_ti n) (nI m) :=
  ⟨5 + 1, fd_xcpL hm h 5 0 rfl⟩
theorem fd_ycpL {post : Int32 → SY → Prop} {m : Nat} (hm : m < 4)
    (h : wpY_all (fun r_11 => (wpY_leastOf (fun r_19 u => match u with | (c0, c1, c2, c3, c4, c5, c6) => (post r_19 (c0, c1, c2, c3, c4, c5, c6))) (cr, al, mu, mb, th, fd_ti (fd_cp n m 5), on) (r_11 ||| 8) (-1) 0)) (cr, al, mu, mb, th, fd_ti (fd_cp n m 5), on)) :
    ∀ d i, i + d = 5 → wY_leastDoubled_12 post (nI m) cr al mu mb (d + 1) (nI i) th (fd_ti (fd_cp n m i)) on := by
  intro d
  induction d with
  | zero =>
    intro i hi
    have e : i = 5 := by omega
    subst e
    exact br_t (by decide) h
  | succ d ih =>
    intro i hi
    have hi5 : i < 5 := by omega
    have k := ih (i + 1) (by omega)
    have e3 : 4 * nI i + 3 = nI (4 * i + 3) := fd_ixB i 3
    refine br_f (lt5' i hi5) ?_
    rw [fd_ixB, e3]
    refine ⟨vp_in_nI (by omega) (by omega), vp_in_nI (by omega) (by omega), ?_⟩
    refine nm_r (e' := fd_ti (fd_cp n m (i + 1))) ?_ (nm_r (nI_1 i) k)
    rw [fd_tic _ (by omega), nI_clamp (n := 4 * i + 3) (by omega), fd_ti_up]
    rfl

/-! the least free number -/
def fd_fr (p : Nat) : Nat := if p.testBit 0 = false then 0 else if p.testBit 1 = false then 1 else if p.testBit 2 = false then 2 else if p.testBit 3 = false then 3 else if p.testBit 4 = false then 4 else 5
theorem fd_fr_le : ∀ p, p < 32 → fd_fr p ≤ 5 := by decide +kernel
theorem fd_fr_b : ∀ p, p < 32 → ∀ i, i < 5 → i < fd_fr p → p.testBit i = true := by decide +kernel
theorem fd_fr_f : ∀ p, p < 32 → fd_fr p < 5 → p.testBit (fd_fr p) = false := by decide +kernel
theorem fd_xfrL {post : Int32 → Prop} (hp : p < 32) (h : post (nI (fd_fr p))) : ∀ d i, i + d = fd_fr p → wX_leastFreeNumber_2 post fm fe (nI p) a (d + 1) (nI i) := by
  have h5 := fd_fr_le p hp
  intro d
  induction d with
  | zero =>
    intro i hi
    have e : i = fd_fr p := hi
    rcases Nat.lt_or_ge i 5 with h1 | h1
    · refine br_f (lt5' i h1) ?_
      refine fd_xhasN p (by omega) ?_
      rw [e, fd_fr_f p hp (by omega)]
      exact br_t rfl h
    · have e2 : i = 5 := by omega
      rw [← e, e2] at h
      rw [e2]
      exact br_t (by decide) h
  | succ d ih =>
    intro i hi
    have h1 : i < 5 := by omega
    refine br_f (lt5' i h1) ?_
    refine fd_xhasN p (by omega) ?_
    rw [fd_fr_b p hp i h1 (by omega)]
    exact br_f (by decide) (nm_r (nI_1 i) (ih (i + 1) (by omega)))
theorem fd_xfr {post : Int32 → Prop} (hp : p < 32) (h : post (nI (fd_fr p))) : wpX_leastFreeNumber post (fm, fe, nI p, a) :=
  ⟨fd_fr p + 1, fd_xfrL hp h (fd_fr p) 0 (Nat.zero_add _)⟩

/-! another machine can do it -/
def fd_cb (n : Nat → Nat) (j m : Nat) : Nat → Bool
  | 0 => false
  | k + 1 => fd_cb n j m k || (decide (k ≠ m) && decide (n (4 * j + k) ≠ 0))
theorem fd_cb_t {j m k : Nat} (h : fd_cb n j m k = true) (d : Nat) : fd_cb n j m (k + d) = true := by
  induction d with
  | zero => exact h
  | succ d ih =>
    show (fd_cb n j m (k + d) || _) = true
    rw [ih, Bool.true_or]
theorem fd_xcbL {post : Int32 → Prop} {j m : Nat} (hn : ∀ i, n i ≤ 15) (hw : w ≤ 3) (hj : j < 5) (hm : m < w) (h : post (fd_b (fd_cb n j m w))) :
    ∀ d i, i + d = w → fd_cb n j m i = false → wX_canBeDoneElsewhere_2 post (nI j) (nI m) (nI w) fe fp (fd_ti n) (d + 1) (nI i) := by
  intro d
  induction d with
  | zero =>
    intro i hi hc
    have e : i = w := hi
    subst e
    rw [hc] at h
    exact br_t (nI_le (Nat.le_refl _) (by omega)) h
  | succ d ih =>
    intro i hi hc
    have hi3 : i < 3 := by omega
    have hn1 := hn (4 * j + i)
    have hs : fd_cb n j m (i + 1) = (decide (i ≠ m) && decide (n (4 * j + i) ≠ 0)) := by
      show (fd_cb n j m i || _) = _
      rw [hc, Bool.false_or]
    refine br_f (nI_ge (by omega) (by omega)) ?_
    by_cases him : i = m
    · refine br_t (by rw [him]) (nm_r (nI_1 i) ?_)
      refine ih (i + 1) (by omega) ?_
      rw [hs]
      simp [him]
    · refine br_f (fd_ne (by omega) (by omega) him) ?_
      rw [fd_ixA]
      refine ⟨vp_in_nI (by omega) (by omega), ?_⟩
      rw [fd_tic n (by omega)]
      by_cases h0 : n (4 * j + i) = 0
      · refine br_t (by rw [h0]; exact nI_0) (nm_r (nI_1 i) ?_)
        refine ih (i + 1) (by omega) ?_
        rw [hs]
        simp [h0]
      · refine br_f (nI_ne0 (by omega) (by omega)) ?_
        have ht : fd_cb n j m (i + 1) = true := by
          rw [hs]
          simp [h0, him]
        have hw2 := fd_cb_t ht d
        rw [show i + 1 + d = w by omega] at hw2
        rw [hw2] at h
        exact h
theorem fd_xcb {post : Int32 → Prop} {j m : Nat} (hn : ∀ i, n i ≤ 15) (hw : w ≤ 3) (hj : j < 5) (hm : m < w) (h : post (fd_b (fd_cb n j m w))) : wpX_canBeDoneElsewhere post (nI w, fe, fp, fd_ti n) (nI j) (nI m) :=
  ⟨w + 1, fd_xcbL hn hw hj hm h w 0 (Nat.zero_add _) rfl⟩

/-! the reference's plan -/
theorem fd_ypl {post : SY → Prop} (hn : ∀ i, n i ≤ 15)
    (h : ∀ on : Nat → Int32, (∀ k, k < 5 → on k = nI (fd_dg (fd_gd (fd_bo (fd_T n p) (fd_P (fd_op n (((1 : Int32) <<< (cr &&& 31)) - 1) (-1) 0) p) 1024)) k)) → post (cr, ((1 : Int32) <<< (cr &&& 31)) - 1, -1, 0, fd_th p, fd_ti n, on)) :
    wpY_plan post (cr, al, mu, mb, fd_th p, fd_ti n, on) := by
  unfold wpY_plan wpY_all
  refine fd_ylo hn ?_
  intro on1
  exact ⟨_, fd_yplL hn h _ 0 on1 (Nat.zero_add _)⟩
end
end
section
/-! add and setTime -/
theorem fd_xt0 {post : Int32 → Prop} {v : Int32} (hv : v < 0 ∨ 15 < v) (h : post 0) : wpX_isTime post v := by
  unfold wpX_isTime
  by_cases h0 : v < 0
  · exact br_t h0 h
  · exact br_f h0 (br_t (hv.resolve_left h0) h)
theorem fd_xt1 {post : Int32 → Prop} {v : Int32} (h0 : ¬ v < 0) (h1 : ¬ 15 < v) (h : post 1) : wpX_isTime post v := by
  unfold wpX_isTime
  exact br_f h0 (br_f h1 h)
theorem fd_tN {v : Int32} (h0 : ¬ v < 0) (h1 : ¬ 15 < v) : ∃ t : Nat, t ≤ 15 ∧ v = nI t := nI_of2 (M := 15) (by decide) h0 (Int32.not_lt.mp h1)
def fd_a3 (n : Nat → Nat) (r a b c : Nat) : Nat → Nat := fd_up (fd_up (fd_up n (4 * r) a) (4 * r + 1) b) (4 * r + 2) c
theorem fd_a3_le {n : Nat → Nat} (hn : ∀ i, n i ≤ 15) {r a b c : Nat} (ha : a ≤ 15) (hb : b ≤ 15) (hc : c ≤ 15) : ∀ i, fd_a3 n r a b c i ≤ 15 :=
  fd_up_le (fd_up_le (fd_up_le hn ha) hb) hc
theorem fd_a3_z {n : Nat → Nat} {w r a b c : Nat} (hw : 1 ≤ w) (hz : ∀ j c, w ≤ c → c < 3 → n (4 * j + c) = 0) (hb : w ≤ 1 → b = 0) (hc : w ≤ 2 → c = 0) : ∀ j k, w ≤ k → k < 3 → fd_a3 n r a b c (4 * j + k) = 0 := by
  intro j k h1 h2
  unfold fd_a3 fd_up
  by_cases e2 : 4 * j + k = 4 * r + 2
  · rw [if_pos e2]; exact hc (by omega)
  · rw [if_neg e2]
    by_cases e1 : 4 * j + k = 4 * r + 1
    · rw [if_pos e1]; exact hb (by omega)
    · rw [if_neg e1, if_neg (by omega)]
      exact hz j k h1 h2
theorem fd_a3_i (n : Nat → Nat) {r a b c : Nat} : upd (upd (upd (fd_ti n) (4 * r) (nI a)) (4 * r + 1) (nI b)) (4 * r + 2) (nI c) = fd_ti (fd_a3 n r a b c) := by
  rw [fd_ti_up, fd_ti_up, fd_ti_up]
  rfl
section
variable {fm fe fp cr al mu mb : Int32} {on : Nat → Int32} {n : Nat → Nat} {p w : Nat}

theorem fd_xa71 {post : Int32 → SX → Prop} {a b c : Nat} (hp : p < 32) (h5 : fd_fr p = 5 → post (-2) (fm, fe, nI p, fd_ti n))
    (h1 : fd_fr p < 5 → post (nI (fd_fr p)) (fm, fe, nI (fd_ad p (fd_fr p)), fd_ti (fd_a3 n (fd_fr p) a b c))) : wX_add_71 post (nI a) (nI b) (nI c) fm fe (nI p) (fd_ti n) := by
  have hr := fd_fr_le p hp
  unfold wX_add_71
  refine fd_xfr hp ?_
  by_cases e : fd_fr p = 5
  · exact br_t (by rw [e]; decide) (h5 e)
  · have hr5 : fd_fr p < 5 := by omega
    refine br_f (fd_ne (b := 5) (by omega) (by decide) e) ?_
    have e1 : nI (fd_fr p) * 4 + 1 = nI (4 * fd_fr p + 1) := fd_ixA (fd_fr p) 1
    have e2 : nI (fd_fr p) * 4 + 2 = nI (4 * fd_fr p + 2) := fd_ixA (fd_fr p) 2
    rw [e1, e2, fd_mulA, nI_clamp (n := 4 * fd_fr p) (by omega), nI_clamp (n := 4 * fd_fr p + 1) (by omega), nI_clamp (n := 4 * fd_fr p + 2) (by omega)]
    refine ⟨vp_in_nI (by omega) (by omega), nm_e ⟨vp_in_nI (by omega) (by omega), nm_e ⟨vp_in_nI (by omega) (by omega), nm_r (fd_a3_i n) (nm_r (fd_ad_i p hp _ hr5) (h1 hr5))⟩⟩⟩
theorem fd_ya89 {post : Int32 → SY → Prop} {a b c : Nat} (hp : p < 32) (h5 : fd_fr p = 5 → post (-2) (cr, al, mu, mb, fd_th p, fd_ti n, on))
    (h1 : fd_fr p < 5 → post (nI (fd_fr p)) (cr, al, mu, mb, fd_th (fd_ad p (fd_fr p)), fd_ti (fd_a3 n (fd_fr p) a b c), on)) :
    ∀ d i, i + d = fd_fr p → wY_add_89 post (nI a) (nI b) (nI c) cr al mu mb (fd_th p) (fd_ti n) on (d + 1) (nI i) := by
  have hr := fd_fr_le p hp
  intro d
  induction d with
  | zero =>
    intro i hi
    have e : i = fd_fr p := hi
    rcases Nat.lt_or_ge i 5 with hi5 | hi5
    · refine br_f (lt5' i hi5) ⟨vp_in_nI hi5 (by omega), ?_⟩
      have e1 : 4 * nI i + 1 = nI (4 * i + 1) := fd_ixB i 1
      have e2 : 4 * nI i + 2 = nI (4 * i + 2) := fd_ixB i 2
      have hf : p.testBit i = false := by rw [e]; exact fd_fr_f p hp (by omega)
      rw [fd_thc p (by omega), hf]
      refine br_t rfl ⟨vp_in_nI hi5 (by omega), ?_⟩
      refine nm_r (e' := fd_th (fd_ad p i)) (by rw [nI_clamp (n := i) (by omega), fd_n1, fd_th_ad hp hi5]) ?_
      rw [e1, e2, fd_mulB, nI_clamp (n := 4 * i) (by omega), nI_clamp (n := 4 * i + 1) (by omega), nI_clamp (n := 4 * i + 2) (by omega)]
      refine ⟨vp_in_nI (by omega) (by omega), nm_e ⟨vp_in_nI (by omega) (by omega), nm_e ⟨vp_in_nI (by omega) (by omega), nm_r (fd_a3_i n) ?_⟩⟩⟩
      rw [e]
      exact h1 (by omega)
    · have e5 : i = 5 := by omega
      rw [e5]
      exact br_t (by decide) (h5 (by omega))
  | succ d ih =>
    intro i hi
    have hi5 : i < 5 := by omega
    refine br_f (lt5' i hi5) ⟨vp_in_nI hi5 (by omega), ?_⟩
    rw [fd_thc p (by omega), fd_fr_b p hp i hi5 (by omega)]
    exact br_f (by decide) (nm_r (nI_1 i) (ih (i + 1) (by omega)))
/-- both sides refuse, or both go on with three times from 0 to 15 -/
theorem fd_a28 (a b c : Int32) : ((∀ (post : Int32 → SX → Prop) (fm fe fp : Int32) (ti : Nat → Int32), post (-1) (fm, fe, fp, ti) → wX_add_28 post a b c fm fe fp ti) ∧
      (∀ (post : Int32 → SY → Prop) (cr al mu mb : Int32) (th ti on : Nat → Int32), post (-1) (cr, al, mu, mb, th, ti, on) → wY_add_31 post a b c cr al mu mb th ti on)) ∨
    (∃ a' b' c' : Nat, a' ≤ 15 ∧ b' ≤ 15 ∧ c' ≤ 15 ∧ a = nI a' ∧ b = nI b' ∧ c = nI c' ∧
      (∀ (post : Int32 → SX → Prop) (fm fe fp : Int32) (ti : Nat → Int32), wX_add_71 post a b c fm fe fp ti → wX_add_28 post a b c fm fe fp ti) ∧
      (∀ (post : Int32 → SY → Prop) (cr al mu mb : Int32) (th ti on : Nat → Int32), (∃ k, wY_add_89 post a b c cr al mu mb th ti on k 0) → wY_add_31 post a b c cr al mu mb th ti on)) := by
  unfold wX_add_28 wY_add_31
  by_cases ha0 : a < 0
  · exact Or.inl ⟨fun post fm fe fp ti h => fd_xt0 (Or.inl ha0) (br_t rfl h), fun post cr al mu mb th ti on h => br_t ha0 h⟩
  by_cases ha1 : 15 < a
  · exact Or.inl ⟨fun post fm fe fp ti h => fd_xt0 (Or.inr ha1) (br_t rfl h), fun post cr al mu mb th ti on h => br_f ha0 (br_t ha1 h)⟩
  by_cases hb0 : b < 0
  · exact Or.inl ⟨fun post fm fe fp ti h => fd_xt1 ha0 ha1 (br_f (by decide) (fd_xt0 (Or.inl hb0) (br_t rfl h))), fun post cr al mu mb th ti on h => br_f ha0 (br_f ha1 (br_t hb0 h))⟩
  by_cases hb1 : 15 < b
  · exact Or.inl ⟨fun post fm fe fp ti h => fd_xt1 ha0 ha1 (br_f (by decide) (fd_xt0 (Or.inr hb1) (br_t rfl h))), fun post cr al mu mb th ti on h => br_f ha0 (br_f ha1 (br_f hb0 (br_t hb1 h)))⟩
  by_cases hc0 : c < 0
  · exact Or.inl ⟨fun post fm fe fp ti h => fd_xt1 ha0 ha1 (br_f (by decide) (fd_xt1 hb0 hb1 (br_f (by decide) (fd_xt0 (Or.inl hc0) (br_t rfl h))))), fun post cr al mu mb th ti on h => br_f ha0 (br_f ha1 (br_f hb0 (br_f hb1 (br_t hc0 h))))⟩
  by_cases hc1 : 15 < c
  · exact Or.inl ⟨fun post fm fe fp ti h => fd_xt1 ha0 ha1 (br_f (by decide) (fd_xt1 hb0 hb1 (br_f (by decide) (fd_xt0 (Or.inr hc1) (br_t rfl h))))), fun post cr al mu mb th ti on h => br_f ha0 (br_f ha1 (br_f hb0 (br_f hb1 (br_f hc0 (br_t hc1 h)))))⟩
  obtain ⟨a', la, ea⟩ := fd_tN ha0 ha1
  obtain ⟨b', lb, eb⟩ := fd_tN hb0 hb1
  obtain ⟨c', lc, ec⟩ := fd_tN hc0 hc1
  by_cases hz : a = 0 ∧ b = 0 ∧ c = 0
  · exact Or.inl ⟨fun post fm fe fp ti h => fd_xt1 ha0 ha1 (br_f (by decide) (fd_xt1 hb0 hb1 (br_f (by decide) (fd_xt1 hc0 hc1 (br_f (by decide) (br_t hz.1 (br_t hz.2.1 (br_t hz.2.2 h)))))))),
      fun post cr al mu mb th ti on h => br_f ha0 (br_f ha1 (br_f hb0 (br_f hb1 (br_f hc0 (br_f hc1 (br_t hz.1 (br_t hz.2.1 (br_t hz.2.2 h))))))))⟩
  refine Or.inr ⟨a', b', c', la, lb, lc, ea, eb, ec, ?_, ?_⟩
  · intro post fm fe fp ti h
    exact fd_xt1 ha0 ha1 (br_f (by decide) (fd_xt1 hb0 hb1 (br_f (by decide) (fd_xt1 hc0 hc1 (br_f (by decide) (br_c (fun z1 => br_c (fun z2 => br_c (fun z3 => absurd ⟨z1, z2, z3⟩ hz) (fun _ => h)) (fun _ => h)) (fun _ => h)))))))
  · intro post cr al mu mb th ti on h
    exact br_f ha0 (br_f ha1 (br_f hb0 (br_f hb1 (br_f hc0 (br_f hc1 (br_c (fun z1 => br_c (fun z2 => br_c (fun z3 => absurd ⟨z1, z2, z3⟩ hz) (fun _ => h)) (fun _ => h)) (fun _ => h)))))))

/-! setTime -/
theorem fd_cbs {j m : Nat} (hw1 : 1 ≤ w) (hw : w ≤ 3) (hm : m < w) (hz : ∀ j c, w ≤ c → c < 3 → n (4 * j + c) = 0) :
    (fd_cb n j m w = false) ↔ (fd_up n (4 * j + m) 0 (4 * j) + fd_up n (4 * j + m) 0 (4 * j + 1) + fd_up n (4 * j + m) 0 (4 * j + 2) = 0) := by
  have z1 : w ≤ 1 → n (4 * j + 1) = 0 := fun h => hz j 1 h (by decide)
  have z2 : w ≤ 2 → n (4 * j + 2) = 0 := fun h => hz j 2 h (by decide)
  obtain rfl | rfl | rfl : w = 1 ∨ w = 2 ∨ w = 3 := by omega
  · obtain rfl : m = 0 := by omega
    have y1 := z1 (by omega)
    have y2 := z2 (by omega)
    simp [fd_cb, fd_up, y1, y2]
  · have y2 := z2 (by omega)
    obtain rfl | rfl : m = 0 ∨ m = 1 := by omega
    · simp [fd_cb, fd_up, y2]
    · simp [fd_cb, fd_up, y2]
  · obtain rfl | rfl | rfl : m = 0 ∨ m = 1 ∨ m = 2 := by omega
    · simp [fd_cb, fd_up]
    · simp [fd_cb, fd_up]
    · simp [fd_cb, fd_up]
theorem fd_pos {j m t : Nat} (hm : m < 3) (ht : t ≠ 0) : fd_up n (4 * j + m) t (4 * j) + fd_up n (4 * j + m) t (4 * j + 1) + fd_up n (4 * j + m) t (4 * j + 2) ≠ 0 := by
  have e : fd_up n (4 * j + m) t (4 * j + m) = t := if_pos rfl
  obtain rfl | rfl | rfl : m = 0 ∨ m = 1 ∨ m = 2 := by omega
  · have e2 : fd_up n (4 * j + 0) t (4 * j) = t := e
    omega
  · omega
  · omega
theorem fd_yst {post : Int32 → SY → Prop} {j m t : Nat} (hn : ∀ i, n i ≤ 15) (hj : j < 5) (hb : p.testBit j = true) (hm : m < w) (hw : w ≤ 3) (ht : t ≤ 15)
    (h0 : fd_up n (4 * j + m) t (4 * j) + fd_up n (4 * j + m) t (4 * j + 1) + fd_up n (4 * j + m) t (4 * j + 2) = 0 → post 0 (nI w, al, mu, mb, fd_th p, fd_ti n, on))
    (h1 : fd_up n (4 * j + m) t (4 * j) + fd_up n (4 * j + m) t (4 * j + 1) + fd_up n (4 * j + m) t (4 * j + 2) ≠ 0 → post 1 (nI w, al, mu, mb, fd_th p, fd_ti (fd_up n (4 * j + m) t), on)) :
    wpY_setTime post (nI w, al, mu, mb, fd_th p, fd_ti n, on) (nI j) (nI m) (nI t) := by
  unfold wpY_setTime
  refine fd_yis1 hj hb ?_
  refine br_f (by decide) ?_
  refine fd_yma1 hm hw ?_
  refine br_f (by decide) ?_
  refine br_f (nI_pos (by omega)) ?_
  refine br_t (nI_le (b := 15) ht (by decide)) ?_
  have e1 : 4 * nI j + 1 = nI (4 * j + 1) := fd_ixB j 1
  have e2 : 4 * nI j + 2 = nI (4 * j + 2) := fd_ixB j 2
  have b0 := fd_up_le hn ht (k := 4 * j + m) (4 * j)
  have b1 := fd_up_le hn ht (k := 4 * j + m) (4 * j + 1)
  have b2 := fd_up_le hn ht (k := 4 * j + m) (4 * j + 2)
  rw [fd_ixB, e1, e2, fd_mulB]
  refine ⟨vp_in_nI (by omega) (by omega), ?_⟩
  refine nm_r (e' := nI (n (4 * j + m))) (fd_tic n (by omega)) ?_
  refine ⟨vp_in_nI (by omega) (by omega), ?_⟩
  refine nm_r (e' := fd_ti (fd_up n (4 * j + m) t)) (by rw [nI_clamp (n := 4 * j + m) (by omega), fd_ti_up]) ?_
  rw [fd_tic _ (k := 4 * j) (by omega), fd_tic _ (k := 4 * j + 1) (by omega), fd_tic _ (k := 4 * j + 2) (by omega), nI_add, nI_add]
  refine ⟨vp_in_nI (by omega) (by omega), vp_in_nI (by omega) (by omega), vp_in_nI (by omega) (by omega), ?_⟩
  by_cases hs : fd_up n (4 * j + m) t (4 * j) + fd_up n (4 * j + m) t (4 * j + 1) + fd_up n (4 * j + m) t (4 * j + 2) = 0
  · refine br_t (by rw [hs]; decide) ⟨vp_in_nI (by omega) (by omega), ?_⟩
    refine nm_r (e' := fd_ti n) ?_ (h0 hs)
    rw [nI_clamp (n := 4 * j + m) (by omega), fd_ti_up, fd_up_id]
  · exact br_f (nI_nle (by omega) (by omega)) (h1 hs)
end
end
section
/-! the relation and what is owed -/
def i_Rel (_ : Nat) (u : SX) (v : SY) : Prop :=
  ∃ (w p : Nat) (n : Nat → Nat) (al mu mb : Int32) (on : Nat → Int32), 1 ≤ w ∧ w ≤ 3 ∧ p < 32 ∧ (∀ i, n i ≤ 15) ∧ (∀ j c, w ≤ c → c < 3 → n (4 * j + c) = 0) ∧
    u = (nI w, ((1 : Int32) <<< (nI w &&& 31)) - 1, nI p, fd_ti n) ∧ v = (nI w, al, mu, mb, fd_th p, fd_ti n, on)
theorem fd_rel {k w p : Nat} {n : Nat → Nat} {al mu mb : Int32} {on : Nat → Int32} (h1 : 1 ≤ w) (h2 : w ≤ 3) (h3 : p < 32) (h4 : ∀ i, n i ≤ 15) (h5 : ∀ j c, w ≤ c → c < 3 → n (4 * j + c) = 0) :
    i_Rel k (nI w, ((1 : Int32) <<< (nI w &&& 31)) - 1, nI p, fd_ti n) (nI w, al, mu, mb, fd_th p, fd_ti n, on) :=
  ⟨w, p, n, al, mu, mb, on, h1, h2, h3, h4, h5, rfl, rfl⟩
theorem i_up {k : Nat} {u : SX} {v : SY} (h : i_Rel k u v) : i_Rel (k + 4) u v := h
theorem fd_th0 : fd_th 0 = fun _ => 0 := by
  funext i
  unfold fd_th
  rw [Nat.zero_testBit]
  rfl
theorem fd_rel0 {k w : Nat} (h1 : 1 ≤ w) (h2 : w ≤ 3) : i_Rel k (nI w, ((1 : Int32) <<< (nI w &&& 31)) - 1, 0, (fun _ => 0)) (nI w, 0, 0, 0, (fun _ => 0), (fun _ => 0), (fun _ => 0)) := by
  have h := fd_rel (k := k) (w := w) (p := 0) (n := fun _ => 0) (al := 0) (mu := 0) (mb := 0) (on := fun _ => 0) h1 h2 (by decide) (fun _ => Nat.zero_le 15) (fun _ _ _ _ => rfl)
  rw [fd_th0] at h
  exact h
theorem i_vc0 (k0 : Int32) : wpX_init (fun u => wpY_init (fun v => i_Rel 1 u v) k0) k0 := by
  unfold wpX_init wpY_init wX_init_32
  by_cases h1 : 1 ≤ k0
  · by_cases h3 : k0 ≤ 3
    · obtain ⟨w, hw, rfl⟩ := nI_of2 (M := 3) (n := 3) (by decide) (Int32.not_lt.mpr (Int32.le_trans (by decide : (0 : Int32) ≤ 1) h1)) h3
      have hw1 : 1 ≤ w := (nI_leI (a := 1) (b := w) (by decide) (by omega)).mp h1
      exact br_t h1 (br_t h3 (nm_e (br_t h1 (br_t h3 (fd_rel0 hw1 hw)))))
    · exact br_t h1 (br_f h3 (nm_e (br_t h1 (br_f h3 (fd_rel0 (w := 3) (by decide) (by decide))))))
  · exact br_f h1 (nm_e (br_f h1 (fd_rel0 (w := 1) (by decide) (by decide))))
theorem fd_add {k w p : Nat} {n : Nat → Nat} {al mu mb : Int32} {on : Nat → Int32} (h1 : 1 ≤ w) (h2 : w ≤ 3) (h3 : p < 32) (h4 : ∀ i, n i ≤ 15) (h5 : ∀ j c, w ≤ c → c < 3 → n (4 * j + c) = 0) (a b c : Int32) (hb : w ≤ 1 → b = 0) (hc : w ≤ 2 → c = 0) :
    wX_add_28 (fun r u' => wY_add_31 (fun r' v' => r' = r ∧ i_Rel (k + 4) u' v') a b c (nI w) al mu mb (fd_th p) (fd_ti n) on) a b c (nI w) (((1 : Int32) <<< (nI w &&& 31)) - 1) (nI p) (fd_ti n) := by
  rcases fd_a28 a b c with ⟨hX, hY⟩ | ⟨a', b', c', la, lb, lc, rfl, rfl, rfl, hX, hY⟩
  · exact hX _ _ _ _ _ (hY _ _ _ _ _ _ _ _ ⟨rfl, fd_rel h1 h2 h3 h4 h5⟩)
  · have zb : w ≤ 1 → b' = 0 := fun h => (nI_eq (a := b') (b := 0) (by omega) (by decide)).mp (hb h)
    have zc : w ≤ 2 → c' = 0 := fun h => (nI_eq (a := c') (b := 0) (by omega) (by decide)).mp (hc h)
    refine hX _ _ _ _ _ (fd_xa71 h3 ?_ ?_)
    · intro e
      refine hY _ _ _ _ _ _ _ _ ⟨fd_fr p + 1, fd_ya89 h3 (fun _ => ⟨rfl, fd_rel h1 h2 h3 h4 h5⟩) (fun z => absurd e (by omega)) (fd_fr p) 0 (Nat.zero_add _)⟩
    · intro e
      refine hY _ _ _ _ _ _ _ _ ⟨fd_fr p + 1, fd_ya89 h3 (fun z => absurd e (by omega)) (fun _ => ⟨rfl, ?_⟩) (fd_fr p) 0 (Nat.zero_add _)⟩
      exact fd_rel h1 h2 (fd_ad_lt p h3 _ e) (fd_a3_le h4 la lb lc) (fd_a3_z h1 h5 zb zc)
theorem i_vc_add {k : Nat} {u : SX} {v : SY} (I : i_Rel k u v) (hk : k + 4 ≤ 2049) (v1 : Int32) (v2 : Int32) (v3 : Int32) : wpX_add (fun r u' => wpY_add (fun r' v' => r' = r ∧ i_Rel (k + 4) u' v') v v1 v2 v3) u v1 v2 v3 := by
  obtain ⟨w, p, n, al, mu, mb, on, h1, h2, h3, h4, h5, rfl, rfl⟩ := I
  unfold wpX_add wpY_add wX_add_13 wY_add_16
  by_cases w1 : w ≤ 1
  · have x1 : nI w ≤ 1 := nI_le w1 (by decide)
    have x2 : nI w ≤ 2 := nI_le (b := 2) (by omega) (by decide)
    simp only [x1, x2, true_implies, not_true_eq_false, false_implies, and_true]
    exact fd_add h1 h2 h3 h4 h5 v1 0 0 (fun _ => rfl) (fun _ => rfl)
  · have x1 : ¬ nI w ≤ 1 := nI_ge (b := w) (a := 1) (by omega) (by omega)
    by_cases w2 : w ≤ 2
    · have x2 : nI w ≤ 2 := nI_le (b := 2) (by omega) (by decide)
      simp only [x1, x2, true_implies, not_true_eq_false, not_false_eq_true, false_implies, and_true, true_and]
      exact fd_add h1 h2 h3 h4 h5 v1 v2 0 (fun z => absurd z w1) (fun _ => rfl)
    · have x2 : ¬ nI w ≤ 2 := nI_ge (b := w) (a := 2) (by omega) (by omega)
      simp only [x1, x2, true_implies, not_false_eq_true, false_implies, true_and]
      exact fd_add h1 h2 h3 h4 h5 v1 v2 v3 (fun z => absurd z w1) (fun z => absurd z w2)
theorem i_vc_remove {k : Nat} {u : SX} {v : SY} (I : i_Rel k u v) (hk : k + 4 ≤ 2049) (v1 : Int32) : wpX_remove (fun r u' => wpY_remove (fun r' v' => r' = r ∧ i_Rel (k + 4) u' v') v v1) u v1 := by
  obtain ⟨w, p, n, al, mu, mb, on, h1, h2, h3, h4, h5, rfl, rfl⟩ := I
  unfold wpX_remove wpY_remove
  rcases fd_jobC p v1 with ⟨j, hj, rfl, hb⟩ | hv
  · refine fd_xjob1 hj hb (br_f (by decide) (nm_r (fd_rm_i p h3 j hj) ?_))
    refine fd_yis1 hj hb (br_f (by decide) ⟨vp_in_nI hj (by omega), ?_⟩)
    refine nm_r (e' := fd_th (fd_rm p j)) (by rw [nI_clamp (n := j) (by omega), fd_n0, fd_th_rm h3 hj]) ?_
    exact ⟨rfl, fd_rel h1 h2 (fd_rm_lt p h3 j hj) h4 h5⟩
  · exact fd_xjob0 hv (br_t rfl (fd_yis0 hv (br_t rfl ⟨rfl, fd_rel h1 h2 h3 h4 h5⟩)))
theorem i_vc_setTime {k : Nat} {u : SX} {v : SY} (I : i_Rel k u v) (hk : k + 4 ≤ 2049) (v1 : Int32) (v2 : Int32) (v3 : Int32) : wpX_setTime (fun r u' => wpY_setTime (fun r' v' => r' = r ∧ i_Rel (k + 4) u' v') v v1 v2 v3) u v1 v2 v3 := by
  obtain ⟨w, p, n, al, mu, mb, on, h1, h2, h3, h4, h5, rfl, rfl⟩ := I
  have R := fd_rel (k := k + 4) (al := al) (mu := mu) (mb := mb) (on := on) h1 h2 h3 h4 h5
  unfold wpX_setTime
  rcases fd_jobC p v1 with ⟨j, hj, rfl, hb⟩ | hv
  · refine fd_xjob1 hj hb (br_f (by decide) ?_)
    rcases fd_maC h2 v2 with ⟨m, hm, rfl⟩ | hv
    · refine fd_xma1 hm h2 (br_f (by decide) ?_)
      by_cases t0 : v3 < 0
      · refine fd_xt0 (Or.inl t0) (br_t rfl ?_)
        unfold wpY_setTime
        exact fd_yis1 hj hb (br_f (by decide) (fd_yma1 hm h2 (br_f (by decide) (br_t t0 ⟨rfl, R⟩))))
      by_cases t1 : 15 < v3
      · refine fd_xt0 (Or.inr t1) (br_t rfl ?_)
        unfold wpY_setTime
        exact fd_yis1 hj hb (br_f (by decide) (fd_yma1 hm h2 (br_f (by decide) (br_f t0 (br_f (Int32.not_le.mpr t1) ⟨rfl, R⟩)))))
      refine fd_xt1 t0 t1 (br_f (by decide) ?_)
      obtain ⟨t, ht, rfl⟩ := fd_tN t0 t1
      have hz2 : ∀ j' c, w ≤ c → c < 3 → fd_up n (4 * j + m) t (4 * j' + c) = 0 := by
        intro j' c g1 g2
        unfold fd_up
        rw [if_neg (by omega)]
        exact h5 j' c g1 g2
      have R2 := fd_rel (k := k + 4) (al := al) (mu := mu) (mb := mb) (on := on) h1 h2 h3 (fd_up_le h4 ht (k := 4 * j + m)) hz2
      have go : fd_up n (4 * j + m) t (4 * j) + fd_up n (4 * j + m) t (4 * j + 1) + fd_up n (4 * j + m) t (4 * j + 2) ≠ 0 → wX_setTime_40 (fun r u' => wpY_setTime (fun r' v' => r' = r ∧ i_Rel (k + 4) u' v') (nI w, al, mu, mb, fd_th p, fd_ti n, on) (nI j) (nI m) (nI t)) (nI j) (nI m) (nI t) (nI w) (((1 : Int32) <<< (nI w &&& 31)) - 1) (nI p) (fd_ti n) := by
        intro hs
        unfold wX_setTime_40
        rw [fd_ixA]
        refine ⟨vp_in_nI (by omega) (by omega), ?_⟩
        refine nm_r (e' := fd_ti (fd_up n (4 * j + m) t)) (by rw [nI_clamp (n := 4 * j + m) (by omega), fd_ti_up]) ?_
        exact fd_yst h4 hj hb hm h2 ht (fun z => absurd z hs) (fun _ => ⟨rfl, R2⟩)
      by_cases tz : t = 0
      · refine br_t (by rw [tz]; exact nI_0) ?_
        subst tz
        refine fd_xcb h4 h2 hj hm ?_
        cases hc : fd_cb n j m w with
        | false => exact br_t rfl (fd_yst h4 hj hb hm h2 ht (fun _ => ⟨rfl, R⟩) (fun z => absurd ((fd_cbs h1 h2 hm h5).mp hc) z))
        | true => exact br_f (by decide) (go (fun z => absurd (hc.symm.trans ((fd_cbs h1 h2 hm h5).mpr z)) (by decide)))
      · exact br_f (nI_ne0 (by omega) (by omega)) (go (fd_pos (by omega) tz))
    · refine fd_xma0 h2 hv (br_t rfl ?_)
      unfold wpY_setTime
      exact fd_yis1 hj hb (br_f (by decide) (fd_yma0 h2 hv (br_t rfl ⟨rfl, R⟩)))
  · refine fd_xjob0 hv (br_t rfl ?_)
    unfold wpY_setTime
    exact fd_yis0 hv (br_t rfl ⟨rfl, R⟩)
theorem i_vc_jobs {k : Nat} {u : SX} {v : SY} (I : i_Rel k u v) (hk : k + 4 ≤ 2049) : wpX_jobs (fun r => wpY_jobs (fun r' => r' = r ∧ i_Rel (k + 4) u v) v) u := by
  obtain ⟨w, p, n, al, mu, mb, on, h1, h2, h3, h4, h5, rfl, rfl⟩ := I
  unfold wpX_jobs wpY_jobs
  exact ⟨5 + 1, fd_yjL ⟨fd_js5 p h3, fd_rel h1 h2 h3 h4 h5⟩ 5 0 rfl⟩
theorem i_vc_time {k : Nat} {u : SX} {v : SY} (I : i_Rel k u v) (hk : k + 4 ≤ 2049) (v1 : Int32) (v2 : Int32) : wpX_time (fun r => wpY_time (fun r' => r' = r ∧ i_Rel (k + 4) u v) v v1 v2) u v1 v2 := by
  obtain ⟨w, p, n, al, mu, mb, on, h1, h2, h3, h4, h5, rfl, rfl⟩ := I
  have R := fd_rel (k := k + 4) (al := al) (mu := mu) (mb := mb) (on := on) h1 h2 h3 h4 h5
  unfold wpX_time wpY_time
  rcases fd_jobC p v1 with ⟨j, hj, rfl, hb⟩ | hv
  · rcases fd_maC h2 v2 with ⟨m, hm, rfl⟩ | hv
    · refine fd_xjob1 hj hb (br_f (by decide) (fd_xma1 hm h2 (br_f (by decide) ?_)))
      rw [fd_ixA]
      refine ⟨vp_in_nI (by omega) (by omega), ?_⟩
      refine fd_yis1 hj hb (br_f (by decide) (fd_yma1 hm h2 (br_f (by decide) ?_)))
      rw [fd_ixB]
      exact ⟨vp_in_nI (by omega) (by omega), rfl, R⟩
    · exact fd_xjob1 hj hb (br_f (by decide) (fd_xma0 h2 hv (br_t rfl (fd_yis1 hj hb (br_f (by decide) (fd_yma0 h2 hv (br_t rfl ⟨rfl, R⟩)))))))
  · exact fd_xjob0 hv (br_t rfl (fd_yis0 hv (br_t rfl ⟨rfl, R⟩)))
theorem i_vc_least {k : Nat} {u : SX} {v : SY} (I : i_Rel k u v) (hk : k + 4 ≤ 2049) : wpX_least (fun r => wpY_least (fun r' v' => r' = r ∧ i_Rel (k + 4) u v') v) u := by
  obtain ⟨w, p, n, al, mu, mb, on, h1, h2, h3, h4, h5, rfl, rfl⟩ := I
  unfold wpX_least
  refine fd_xoo h4 ?_
  refine fd_xlt h4 (fd_mk0 n _ 0) ?_
  unfold wpY_least wpY_all
  refine fd_ylo h4 ?_
  intro on1
  exact ⟨rfl, fd_rel h1 h2 h3 h4 h5⟩
theorem i_vc_machineOf {k : Nat} {u : SX} {v : SY} (I : i_Rel k u v) (hk : k + 4 ≤ 2049) (v1 : Int32) : wpX_machineOf (fun r => wpY_machineOf (fun r' v' => r' = r ∧ i_Rel (k + 4) u v') v v1) u v1 := by
  obtain ⟨w, p, n, al, mu, mb, on, h1, h2, h3, h4, h5, rfl, rfl⟩ := I
  unfold wpX_machineOf wpY_machineOf
  rcases fd_jobC p v1 with ⟨j, hj, rfl, hb⟩ | hv
  · refine fd_xjob1 hj hb (br_f (by decide) ?_)
    refine fd_xoo h4 ?_
    refine fd_xfp h4 (fd_mk0 n _ 0) ?_
    refine fd_xmi fd_gd_pv hj ?_
    refine fd_ypl h4 ?_
    intro on1 hon
    refine fd_yis1 hj hb (br_f (by decide) ⟨vp_in_nI hj (by omega), ?_⟩)
    rw [nI_clamp (n := j) (by omega), hon j hj]
    exact ⟨rfl, fd_rel h1 h2 h3 h4 h5⟩
  · refine fd_xjob0 hv (br_t rfl ?_)
    refine fd_ypl h4 ?_
    intro on1 hon
    exact fd_yis0 hv (br_t rfl ⟨rfl, fd_rel h1 h2 h3 h4 h5⟩)
theorem i_vc_finishOf {k : Nat} {u : SX} {v : SY} (I : i_Rel k u v) (hk : k + 4 ≤ 2049) (v1 : Int32) : wpX_finishOf (fun r => wpY_finishOf (fun r' v' => r' = r ∧ i_Rel (k + 4) u v') v v1) u v1 := by
  obtain ⟨w, p, n, al, mu, mb, on, h1, h2, h3, h4, h5, rfl, rfl⟩ := I
  unfold wpX_finishOf wpY_finishOf
  rcases fd_jobC p v1 with ⟨j, hj, rfl, hb⟩ | hv
  · refine fd_xjob1 hj hb (br_f (by decide) ?_)
    refine fd_xoo h4 ?_
    refine fd_xfp h4 (fd_mk0 n _ 0) ?_
    refine fd_xfin fd_gd_pv h4 hj ?_
    refine fd_ypl h4 ?_
    intro on1 hon
    refine fd_yis1 hj hb (br_f (by decide) ?_)
    refine fd_yfin h4 hj hon ?_
    exact ⟨rfl, fd_rel h1 h2 h3 h4 h5⟩
  · refine fd_xjob0 hv (br_t rfl ?_)
    refine fd_ypl h4 ?_
    intro on1 hon
    exact fd_yis0 hv (br_t rfl ⟨rfl, fd_rel h1 h2 h3 h4 h5⟩)
theorem i_vc_leastWith {k : Nat} {u : SX} {v : SY} (I : i_Rel k u v) (hk : k + 4 ≤ 2049) (v1 : Int32) (v2 : Int32) : wpX_leastWith (fun r => wpY_leastWith (fun r' v' => r' = r ∧ i_Rel (k + 4) u v') v v1 v2) u v1 v2 := by
  obtain ⟨w, p, n, al, mu, mb, on, h1, h2, h3, h4, h5, rfl, rfl⟩ := I
  have R := fd_rel (k := k + 4) (al := al) (mu := mu) (mb := mb) (on := on) h1 h2 h3 h4 h5
  unfold wpX_leastWith
  rcases fd_jobC p v1 with ⟨j, hj, rfl, hb⟩ | hv
  · rcases fd_maC h2 v2 with ⟨m, hm, rfl⟩ | hv
    · refine fd_xjob1 hj hb (br_f (by decide) (fd_xma1 hm h2 (br_f (by decide) ?_)))
      refine fd_xoo h4 ?_
      unfold wpX_optionsOfJob wpX_optionBit
      rw [fd_mulA, nI_add]
      refine nm_e ?_
      refine fd_xlt h4 (fd_mkW n _ hj (by omega)) ?_
      unfold wpY_leastWith
      refine fd_yis1 hj hb (br_f (by decide) (fd_yma1 hm h2 (br_f (by decide) ?_)))
      unfold wpY_all
      refine fd_ylo h4 ?_
      intro on1
      exact ⟨rfl, fd_rel h1 h2 h3 h4 h5⟩
    · refine fd_xjob1 hj hb (br_f (by decide) (fd_xma0 h2 hv (br_t rfl ?_)))
      unfold wpY_leastWith
      exact fd_yis1 hj hb (br_f (by decide) (fd_yma0 h2 hv (br_t rfl ⟨rfl, R⟩)))
  · refine fd_xjob0 hv (br_t rfl ?_)
    unfold wpY_leastWith
    exact fd_yis0 hv (br_t rfl ⟨rfl, R⟩)
theorem i_vc_leastWithout {k : Nat} {u : SX} {v : SY} (I : i_Rel k u v) (hk : k + 4 ≤ 2049) (v1 : Int32) : wpX_leastWithout (fun r => wpY_leastWithout (fun r' v' => r' = r ∧ i_Rel (k + 4) u v') v v1) u v1 := by
  obtain ⟨w, p, n, al, mu, mb, on, h1, h2, h3, h4, h5, rfl, rfl⟩ := I
  have R := fd_rel (k := k + 4) (al := al) (mu := mu) (mb := mb) (on := on) h1 h2 h3 h4 h5
  unfold wpX_leastWithout
  rcases fd_jobC p v1 with ⟨j, hj, rfl, hb⟩ | hv
  · refine fd_xjob1 hj hb (br_f (by decide) ?_)
    refine fd_xoo h4 ?_
    rw [fd_rm_i p h3 j hj]
    refine fd_xlt h4 (fd_mk0 n _ 0) ?_
    unfold wpY_leastWithout
    refine fd_yis1 hj hb (br_f (by decide) ⟨vp_in_nI hj (by omega), ?_⟩)
    refine nm_r (e' := fd_th (fd_rm p j)) (by rw [nI_clamp (n := j) (by omega), fd_n0, fd_th_rm h3 hj]) ?_
    unfold wpY_all
    refine fd_ylo h4 ?_
    intro on1
    refine ⟨vp_in_nI hj (by omega), ?_⟩
    refine nm_r (e' := fd_th p) (by rw [nI_clamp (n := j) (by omega), fd_n1, fd_th_ad (fd_rm_lt p h3 j hj) hj, fd_ra p h3 j hj hb]) ?_
    exact ⟨rfl, fd_rel h1 h2 h3 h4 h5⟩
  · refine fd_xjob0 hv (br_t rfl ?_)
    unfold wpY_leastWithout
    exact fd_yis0 hv (br_t rfl ⟨rfl, R⟩)
theorem i_vc_leastDoubled {k : Nat} {u : SX} {v : SY} (I : i_Rel k u v) (hk : k + 4 ≤ 2049) (v1 : Int32) : wpX_leastDoubled (fun r u' => wpY_leastDoubled (fun r' v' => r' = r ∧ i_Rel (k + 4) u' v') v v1) u v1 := by
  obtain ⟨w, p, n, al, mu, mb, on, h1, h2, h3, h4, h5, rfl, rfl⟩ := I
  have R := fd_rel (k := k + 4) (al := al) (mu := mu) (mb := mb) (on := on) h1 h2 h3 h4 h5
  unfold wpX_leastDoubled
  rcases fd_maC h2 v1 with ⟨m, hm, rfl⟩ | hv
  · have h4' := fd_cp_le h4 m 5
    refine fd_xma1 hm h2 (br_f (by decide) ?_)
    refine fd_xcp (by omega) ?_
    refine fd_xoo h4' ?_
    refine fd_xlt h4' (fd_mk0 _ _ 0) ?_
    unfold wpY_leastDoubled
    refine fd_yma1 hm h2 (br_f (by decide) ⟨5 + 1, fd_ycpL (by omega) ?_ 5 0 rfl⟩)
    unfold wpY_all
    refine fd_ylo h4' ?_
    intro on1
    exact ⟨rfl, fd_rel h1 h2 h3 h4' (fd_cp_z m h5 5)⟩
  · refine fd_xma0 h2 hv (br_t rfl ?_)
    unfold wpY_leastDoubled
    exact fd_yma0 h2 hv (br_t rfl ⟨rfl, R⟩)
theorem i_vc_leastIdle {k : Nat} {u : SX} {v : SY} (I : i_Rel k u v) (hk : k + 4 ≤ 2049) (v1 : Int32) : wpX_leastIdle (fun r => wpY_leastIdle (fun r' v' => r' = r ∧ i_Rel (k + 4) u v') v v1) u v1 := by
  obtain ⟨w, p, n, al, mu, mb, on, h1, h2, h3, h4, h5, rfl, rfl⟩ := I
  have R := fd_rel (k := k + 4) (al := al) (mu := mu) (mb := mb) (on := on) h1 h2 h3 h4 h5
  unfold wpX_leastIdle
  rcases fd_maC h2 v1 with ⟨m, hm, rfl⟩ | hv
  · refine fd_xma1 hm h2 (br_f (by decide) ?_)
    refine fd_xoo h4 ?_
    refine fd_xlt h4 (fd_mk0 n _ 0) ?_
    unfold wpY_leastIdle
    refine fd_yma1 hm h2 (br_f (by decide) ?_)
    unfold wpY_all
    refine fd_ylo h4 ?_
    intro on1
    exact ⟨rfl, fd_rel h1 h2 h3 h4 h5⟩
  · refine fd_xma0 h2 hv (br_t rfl ?_)
    unfold wpY_leastIdle
    exact fd_yma0 h2 hv (br_t rfl ⟨rfl, R⟩)
theorem i_vc_mostJobs {k : Nat} {u : SX} {v : SY} (I : i_Rel k u v) (hk : k + 4 ≤ 2049) (v1 : Int32) : wpX_mostJobs (fun r => wpY_mostJobs (fun r' v' => r' = r ∧ i_Rel (k + 4) u v') v v1) u v1 := by
  obtain ⟨w, p, n, al, mu, mb, on, h1, h2, h3, h4, h5, rfl, rfl⟩ := I
  have R := fd_rel (k := k + 4) (al := al) (mu := mu) (mb := mb) (on := on) h1 h2 h3 h4 h5
  unfold wpX_mostJobs
  rcases fd_maC h2 v1 with ⟨m, hm, rfl⟩ | hv
  · refine fd_xma1 hm h2 (br_f (by decide) ?_)
    refine fd_xoo h4 ?_
    refine fd_xlt h4 (fd_mk0 n _ 0) ?_
    refine ⟨1024 + 1, fd_xmjL h4 (fd_mk0 n _ 0) (by omega) ?_ 1024 0 rfl⟩
    unfold wpY_mostJobs
    refine fd_yma1 hm h2 (br_f (by decide) ?_)
    unfold wpY_all
    refine fd_ylo h4 ?_
    intro on1
    refine ⟨1024 + 1, fd_ymjL h4 (by omega) ?_ 1024 0 on1 rfl⟩
    intro on2
    exact ⟨rfl, fd_rel h1 h2 h3 h4 h5⟩
  · refine fd_xma0 h2 hv (br_t rfl ?_)
    unfold wpY_mostJobs
    exact fd_yma0 h2 hv (br_t rfl ⟨rfl, R⟩)
end
