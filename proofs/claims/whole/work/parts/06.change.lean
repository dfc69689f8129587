/-! add and setTime -/
theorem fd_xt0 {post : Int32 → Prop} {v : Int32} (hv : v < 0 ∨ 15 < v) (h : post 0) : wpX_isTime post v := by
  unfold wpX_isTime
  by_cases h0 : v < 0
  · exact br_t h0 h
  · exact br_f h0 (br_t (hv.resolve_left h0) h)
theorem fd_xt1 {post : Int32 → Prop} {v : Int32} (h0 : ¬ v < 0) (h1 : ¬ 15 < v) (h : post 1) : wpX_isTime post v := by
  unfold wpX_isTime
  exact br_f h0 (br_f h1 h)
theorem fd_tN {v : Int32} (h0 : ¬ v < 0) (h1 : ¬ 15 < v) : ∃ t : Nat, t ≤ 15 ∧ v = nI t := nI_of2 (M := 15) (by decide) h0 (Int32.not_lt.mp h1)
def fd_a3 (n : Nat → Nat) (r a b c : Nat) : Nat → Nat := fd_up (fd_up (fd_up n (4 * r) a) (4 * r + 1) b) (4 * r + 2) c
theorem fd_a3_le {n : Nat → Nat} (hn : ∀ i, n i ≤ 15) {r a b c : Nat} (ha : a ≤ 15) (hb : b ≤ 15) (hc : c ≤ 15) : ∀ i, fd_a3 n r a b c i ≤ 15 :=
  fd_up_le (fd_up_le (fd_up_le hn ha) hb) hc
theorem fd_a3_z {n : Nat → Nat} {w r a b c : Nat} (hw : 1 ≤ w) (hz : ∀ j c, w ≤ c → c < 3 → n (4 * j + c) = 0) (hb : w ≤ 1 → b = 0) (hc : w ≤ 2 → c = 0) : ∀ j k, w ≤ k → k < 3 → fd_a3 n r a b c (4 * j + k) = 0 := by
  intro j k h1 h2
  unfold fd_a3 fd_up
  by_cases e2 : 4 * j + k = 4 * r + 2
  · rw [if_pos e2]; exact hc (by omega)
  · rw [if_neg e2]
    by_cases e1 : 4 * j + k = 4 * r + 1
    · rw [if_pos e1]; exact hb (by omega)
    · rw [if_neg e1, if_neg (by omega)]
      exact hz j k h1 h2
theorem fd_a3_i (n : Nat → Nat) {r a b c : Nat} : upd (upd (upd (fd_ti n) (4 * r) (nI a)) (4 * r + 1) (nI b)) (4 * r + 2) (nI c) = fd_ti (fd_a3 n r a b c) := by
  rw [fd_ti_up, fd_ti_up, fd_ti_up]
  rfl
section
variable {fm fe fp cr al mu mb : Int32} {on : Nat → Int32} {n : Nat → Nat} {p w : Nat}

theorem fd_xa71 {post : Int32 → SX → Prop} {a b c : Nat} (hp : p < 32) (h5 : fd_fr p = 5 → post (-2) (fm, fe, nI p, fd_ti n))
    (h1 : fd_fr p < 5 → post (nI (fd_fr p)) (fm, fe, nI (fd_ad p (fd_fr p)), fd_ti (fd_a3 n (fd_fr p) a b c))) : wX_add_71 post (nI a) (nI b) (nI c) fm fe (nI p) (fd_ti n) := by
  have hr := fd_fr_le p hp
  unfold wX_add_71
  refine fd_xfr hp ?_
  by_cases e : fd_fr p = 5
  · exact br_t (by rw [e]; decide) (h5 e)
  · have hr5 : fd_fr p < 5 := by omega
    refine br_f (fd_ne (b := 5) (by omega) (by decide) e) ?_
    have e1 : nI (fd_fr p) * 4 + 1 = nI (4 * fd_fr p + 1) := fd_ixA (fd_fr p) 1
    have e2 : nI (fd_fr p) * 4 + 2 = nI (4 * fd_fr p + 2) := fd_ixA (fd_fr p) 2
    rw [e1, e2, fd_mulA, nI_clamp (n := 4 * fd_fr p) (by omega), nI_clamp (n := 4 * fd_fr p + 1) (by omega), nI_clamp (n := 4 * fd_fr p + 2) (by omega)]
    refine ⟨vp_in_nI (by omega) (by omega), nm_e ⟨vp_in_nI (by omega) (by omega), nm_e ⟨vp_in_nI (by omega) (by omega), nm_r (fd_a3_i n) (nm_r (fd_ad_i p hp _ hr5) (h1 hr5))⟩⟩⟩
theorem fd_ya89 {post : Int32 → SY → Prop} {a b c : Nat} (hp : p < 32) (h5 : fd_fr p = 5 → post (-2) (cr, al, mu, mb, fd_th p, fd_ti n, on))
    (h1 : fd_fr p < 5 → post (nI (fd_fr p)) (cr, al, mu, mb, fd_th (fd_ad p (fd_fr p)), fd_ti (fd_a3 n (fd_fr p) a b c), on)) :
    ∀ d i, i + d = fd_fr p → wY_add_89 post (nI a) (nI b) (nI c) cr al mu mb (fd_th p) (fd_ti n) on (d + 1) (nI i) := by
  have hr := fd_fr_le p hp
  intro d
  induction d with
  | zero =>
    intro i hi
    have e : i = fd_fr p := hi
    rcases Nat.lt_or_ge i 5 with hi5 | hi5
    · refine br_f (lt5' i hi5) ⟨vp_in_nI hi5 (by omega), ?_⟩
      have e1 : 4 * nI i + 1 = nI (4 * i + 1) := fd_ixB i 1
      have e2 : 4 * nI i + 2 = nI (4 * i + 2) := fd_ixB i 2
      have hf : p.testBit i = false := by rw [e]; exact fd_fr_f p hp (by omega)
      rw [fd_thc p (by omega), hf]
      refine br_t rfl ⟨vp_in_nI hi5 (by omega), ?_⟩
      refine nm_r (e' := fd_th (fd_ad p i)) (by rw [nI_clamp (n := i) (by omega), fd_n1, fd_th_ad hp hi5]) ?_
      rw [e1, e2, fd_mulB, nI_clamp (n := 4 * i) (by omega), nI_clamp (n := 4 * i + 1) (by omega), nI_clamp (n := 4 * i + 2) (by omega)]
      refine ⟨vp_in_nI (by omega) (by omega), nm_e ⟨vp_in_nI (by omega) (by omega), nm_e ⟨vp_in_nI (by omega) (by omega), nm_r (fd_a3_i n) ?_⟩⟩⟩
      rw [e]
      exact h1 (by omega)
    · have e5 : i = 5 := by omega
      rw [e5]
      exact br_t (by decide) (h5 (by omega))
  | succ d ih =>
    intro i hi
    have hi5 : i < 5 := by omega
    refine br_f (lt5' i hi5) ⟨vp_in_nI hi5 (by omega), ?_⟩
    rw [fd_thc p (by omega), fd_fr_b p hp i hi5 (by omega)]
    exact br_f (by decide) (nm_r (nI_1 i) (ih (i + 1) (by omega)))
/-- both sides refuse, or both go on with three times from 0 to 15 -/
theorem fd_a28 (a b c : Int32) : ((∀ (post : Int32 → SX → Prop) (fm fe fp : Int32) (ti : Nat → Int32), post (-1) (fm, fe, fp, ti) → wX_add_28 post a b c fm fe fp ti) ∧
      (∀ (post : Int32 → SY → Prop) (cr al mu mb : Int32) (th ti on : Nat → Int32), post (-1) (cr, al, mu, mb, th, ti, on) → wY_add_31 post a b c cr al mu mb th ti on)) ∨
    (∃ a' b' c' : Nat, a' ≤ 15 ∧ b' ≤ 15 ∧ c' ≤ 15 ∧ a = nI a' ∧ b = nI b' ∧ c = nI c' ∧
      (∀ (post : Int32 → SX → Prop) (fm fe fp : Int32) (ti : Nat → Int32), wX_add_71 post a b c fm fe fp ti → wX_add_28 post a b c fm fe fp ti) ∧
      (∀ (post : Int32 → SY → Prop) (cr al mu mb : Int32) (th ti on : Nat → Int32), (∃ k, wY_add_89 post a b c cr al mu mb th ti on k 0) → wY_add_31 post a b c cr al mu mb th ti on)) := by
  unfold wX_add_28 wY_add_31
  by_cases ha0 : a < 0
  · exact Or.inl ⟨fun post fm fe fp ti h => fd_xt0 (Or.inl ha0) (br_t rfl h), fun post cr al mu mb th ti on h => br_t ha0 h⟩
  by_cases ha1 : 15 < a
  · exact Or.inl ⟨fun post fm fe fp ti h => fd_xt0 (Or.inr ha1) (br_t rfl h), fun post cr al mu mb th ti on h => br_f ha0 (br_t ha1 h)⟩
  by_cases hb0 : b < 0
  · exact Or.inl ⟨fun post fm fe fp ti h => fd_xt1 ha0 ha1 (br_f (by decide) (fd_xt0 (Or.inl hb0) (br_t rfl h))), fun post cr al mu mb th ti on h => br_f ha0 (br_f ha1 (br_t hb0 h))⟩
  by_cases hb1 : 15 < b
  · exact Or.inl ⟨fun post fm fe fp ti h => fd_xt1 ha0 ha1 (br_f (by decide) (fd_xt0 (Or.inr hb1) (br_t rfl h))), fun post cr al mu mb th ti on h => br_f ha0 (br_f ha1 (br_f hb0 (br_t hb1 h)))⟩
  by_cases hc0 : c < 0
  · exact Or.inl ⟨fun post fm fe fp ti h => fd_xt1 ha0 ha1 (br_f (by decide) (fd_xt1 hb0 hb1 (br_f (by decide) (fd_xt0 (Or.inl hc0) (br_t rfl h))))), fun post cr al mu mb th ti on h => br_f ha0 (br_f ha1 (br_f hb0 (br_f hb1 (br_t hc0 h))))⟩
  by_cases hc1 : 15 < c
  · exact Or.inl ⟨fun post fm fe fp ti h => fd_xt1 ha0 ha1 (br_f (by decide) (fd_xt1 hb0 hb1 (br_f (by decide) (fd_xt0 (Or.inr hc1) (br_t rfl h))))), fun post cr al mu mb th ti on h => br_f ha0 (br_f ha1 (br_f hb0 (br_f hb1 (br_f hc0 (br_t hc1 h)))))⟩
  obtain ⟨a', la, ea⟩ := fd_tN ha0 ha1
  obtain ⟨b', lb, eb⟩ := fd_tN hb0 hb1
  obtain ⟨c', lc, ec⟩ := fd_tN hc0 hc1
  by_cases hz : a = 0 ∧ b = 0 ∧ c = 0
  · exact Or.inl ⟨fun post fm fe fp ti h => fd_xt1 ha0 ha1 (br_f (by decide) (fd_xt1 hb0 hb1 (br_f (by decide) (fd_xt1 hc0 hc1 (br_f (by decide) (br_t hz.1 (br_t hz.2.1 (br_t hz.2.2 h)))))))),
      fun post cr al mu mb th ti on h => br_f ha0 (br_f ha1 (br_f hb0 (br_f hb1 (br_f hc0 (br_f hc1 (br_t hz.1 (br_t hz.2.1 (br_t hz.2.2 h))))))))⟩
  refine Or.inr ⟨a', b', c', la, lb, lc, ea, eb, ec, ?_, ?_⟩
  · intro post fm fe fp ti h
    exact fd_xt1 ha0 ha1 (br_f (by decide) (fd_xt1 hb0 hb1 (br_f (by decide) (fd_xt1 hc0 hc1 (br_f (by decide) (br_c (fun z1 => br_c (fun z2 => br_c (fun z3 => absurd ⟨z1, z2, z3⟩ hz) (fun _ => h)) (fun _ => h)) (fun _ => h)))))))
  · intro post cr al mu mb th ti on h
    exact br_f ha0 (br_f ha1 (br_f hb0 (br_f hb1 (br_f hc0 (br_f hc1 (br_c (fun z1 => br_c (fun z2 => br_c (fun z3 => absurd ⟨z1, z2, z3⟩ hz) (fun _ => h)) (fun _ => h)) (fun _ => h)))))))

/-! setTime -/
theorem fd_cbs {j m : Nat} (hw1 : 1 ≤ w) (hw : w ≤ 3) (hm : m < w) (hz : ∀ j c, w ≤ c → c < 3 → n (4 * j + c) = 0) :
    (fd_cb n j m w = false) ↔ (fd_up n (4 * j + m) 0 (4 * j) + fd_up n (4 * j + m) 0 (4 * j + 1) + fd_up n (4 * j + m) 0 (4 * j + 2) = 0) := by
  have z1 : w ≤ 1 → n (4 * j + 1) = 0 := fun h => hz j 1 h (by decide)
  have z2 : w ≤ 2 → n (4 * j + 2) = 0 := fun h => hz j 2 h (by decide)
  obtain rfl | rfl | rfl : w = 1 ∨ w = 2 ∨ w = 3 := by omega
  · obtain rfl : m = 0 := by omega
    have y1 := z1 (by omega)
    have y2 := z2 (by omega)
    simp [fd_cb, fd_up, y1, y2]
  · have y2 := z2 (by omega)
    obtain rfl | rfl : m = 0 ∨ m = 1 := by omega
    · simp [fd_cb, fd_up, y2]
    · simp [fd_cb, fd_up, y2]
  · obtain rfl | rfl | rfl : m = 0 ∨ m = 1 ∨ m = 2 := by omega
    · simp [fd_cb, fd_up]
    · simp [fd_cb, fd_up]
    · simp [fd_cb, fd_up]
theorem fd_pos {j m t : Nat} (hm : m < 3) (ht : t ≠ 0) : fd_up n (4 * j + m) t (4 * j) + fd_up n (4 * j + m) t (4 * j + 1) + fd_up n (4 * j + m) t (4 * j + 2) ≠ 0 := by
  have e : fd_up n (4 * j + m) t (4 * j + m) = t := if_pos rfl
  obtain rfl | rfl | rfl : m = 0 ∨ m = 1 ∨ m = 2 := by omega
  · have e2 : fd_up n (4 * j + 0) t (4 * j) = t := e
    omega
  · omega
  · omega
theorem fd_yst {post : Int32 → SY → Prop} {j m t : Nat} (hn : ∀ i, n i ≤ 15) (hj : j < 5) (hb : p.testBit j = true) (hm : m < w) (hw : w ≤ 3) (ht : t ≤ 15)
    (h0 : fd_up n (4 * j + m) t (4 * j) + fd_up n (4 * j + m) t (4 * j + 1) + fd_up n (4 * j + m) t (4 * j + 2) = 0 → post 0 (nI w, al, mu, mb, fd_th p, fd_ti n, on))
    (h1 : fd_up n (4 * j + m) t (4 * j) + fd_up n (4 * j + m) t (4 * j + 1) + fd_up n (4 * j + m) t (4 * j + 2) ≠ 0 → post 1 (nI w, al, mu, mb, fd_th p, fd_ti (fd_up n (4 * j + m) t), on)) :
    wpY_setTime post (nI w, al, mu, mb, fd_th p, fd_ti n, on) (nI j) (nI m) (nI t) := by
  unfold wpY_setTime
  refine fd_yis1 hj hb ?_
  refine br_f (by decide) ?_
  refine fd_yma1 hm hw ?_
  refine br_f (by decide) ?_
  refine br_f (nI_pos (by omega)) ?_
  refine br_t (nI_le (b := 15) ht (by decide)) ?_
  have e1 : 4 * nI j + 1 = nI (4 * j + 1) := fd_ixB j 1
  have e2 : 4 * nI j + 2 = nI (4 * j + 2) := fd_ixB j 2
  have b0 := fd_up_le hn ht (k := 4 * j + m) (4 * j)
  have b1 := fd_up_le hn ht (k := 4 * j + m) (4 * j + 1)
  have b2 := fd_up_le hn ht (k := 4 * j + m) (4 * j + 2)
  rw [fd_ixB, e1, e2, fd_mulB]
  refine ⟨vp_in_nI (by omega) (by omega), ?_⟩
  refine nm_r (e' := nI (n (4 * j + m))) (fd_tic n (by omega)) ?_
  refine ⟨vp_in_nI (by omega) (by omega), ?_⟩
  refine nm_r (e' := fd_ti (fd_up n (4 * j + m) t)) (by rw [nI_clamp (n := 4 * j + m) (by omega), fd_ti_up]) ?_
  rw [fd_tic _ (k := 4 * j) (by omega), fd_tic _ (k := 4 * j + 1) (by omega), fd_tic _ (k := 4 * j + 2) (by omega), nI_add, nI_add]
  refine ⟨vp_in_nI (by omega) (by omega), vp_in_nI (by omega) (by omega), vp_in_nI (by omega) (by omega), ?_⟩
  by_cases hs : fd_up n (4 * j + m) t (4 * j) + fd_up n (4 * j + m) t (4 * j + 1) + fd_up n (4 * j + m) t (4 * j + 2) = 0
  · refine br_t (by rw [hs]; decide) ⟨vp_in_nI (by omega) (by omega), ?_⟩
    refine nm_r (e' := fd_ti n) ?_ (h0 hs)
    rw [nI_clamp (n := 4 * j + m) (by omega), fd_ti_up, fd_up_id]
  · exact br_f (nI_nle (by omega) (by omega)) (h1 hs)
end
