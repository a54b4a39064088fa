/-! rules 5 and 6: the order of the rests. A: which lists have votes; r: the rests -/
def ss_ah (r : Nat → Nat) (j i : Nat) : Bool := decide (r i < r j ∨ (r j = r i ∧ j < i))
theorem ss_ah_iff {r : Nat → Nat} {j i : Nat} : ss_ah r j i = true ↔ (r i < r j ∨ (r j = r i ∧ j < i)) := by
  unfold ss_ah; exact decide_eq_true_iff
theorem ss_ah_irr (r : Nat → Nat) (i : Nat) : ss_ah r i i = false := by
  cases h : ss_ah r i i with
  | false => rfl
  | true => have := ss_ah_iff.mp h; omega
theorem ss_ah_tr {r : Nat → Nat} {i j k : Nat} (h1 : ss_ah r k j = true) (h2 : ss_ah r j i = true) : ss_ah r k i = true := by
  rw [ss_ah_iff] at *
  omega
theorem ss_ah_tot {r : Nat → Nat} {i j : Nat} (h : i ≠ j) (h2 : ss_ah r j i = false) : ss_ah r i j = true := by
  have h3 : ¬ (r i < r j ∨ (r j = r i ∧ j < i)) := fun z => by
    rw [ss_ah_iff.mpr z] at h2; exact nomatch h2
  rw [ss_ah_iff]
  omega
/-- how many of those with votes stand ahead of i -/
def ss_pl (A : Nat → Bool) (r : Nat → Nat) (c i : Nat) : Nat := ss_cnt (fun j => A j && ss_ah r j i) c
theorem ss_pl_lt {A : Nat → Bool} {r : Nat → Nat} {c i j : Nat} (hj : j < c) (Aj : A j = true) (h : ss_ah r j i = true) : ss_pl A r c j < ss_pl A r c i :=
  ss_cnt_lt (b := j) hj (by rw [ss_ah_irr, Bool.and_false]) (by rw [Aj, h]; rfl)
    (fun k _ hk => by
      rw [Bool.and_eq_true] at hk ⊢
      exact ⟨hk.1, ss_ah_tr hk.2 h⟩)
theorem ss_pl_inj {A : Nat → Bool} {r : Nat → Nat} {c i j : Nat} (hi : i < c) (hj : j < c) (Ai : A i = true) (Aj : A j = true) (h : ss_pl A r c i = ss_pl A r c j) : i = j := by
  by_cases e : i = j
  · exact e
  · cases hh : ss_ah r j i with
    | false => have := ss_pl_lt (r := r) hi Ai (ss_ah_tot e hh); omega
    | true => have := ss_pl_lt (r := r) hj Aj hh; omega
theorem ss_pl_m {A : Nat → Bool} {r : Nat → Nat} {c i : Nat} (hi : i < c) (Ai : A i = true) : ss_pl A r c i < ss_cnt A c :=
  ss_cnt_lt (b := i) hi (by rw [ss_ah_irr, Bool.and_false]) Ai
    (fun k _ hk => by rw [Bool.and_eq_true] at hk; exact hk.1)
/-- the first of the greatest among those open -/
def ss_sc (P : Nat → Bool) (r : Nat → Nat) : Nat → Option Nat
  | 0 => none
  | i + 1 => if P i = true then (match ss_sc P r i with
      | none => some i
      | some b => if r b < r i then some i else some b) else ss_sc P r i
theorem ss_sc_congr {P Q : Nat → Bool} {r : Nat → Nat} : ∀ c, (∀ i, i < c → P i = Q i) → ss_sc P r c = ss_sc Q r c := by
  intro c
  induction c with
  | zero => intro _; rfl
  | succ c ih =>
    intro h
    rw [ss_sc, ss_sc, ih (fun i hi => h i (by omega)), h c (by omega)]
theorem ss_sc_none {P : Nat → Bool} {r : Nat → Nat} : ∀ c, ss_sc P r c = none → ∀ i, i < c → P i = false := by
  intro c
  induction c with
  | zero => intro _ i hi; omega
  | succ c ih =>
    intro h i hi
    rw [ss_sc] at h
    by_cases hP : P c = true
    · rw [if_pos hP] at h
      cases hs : ss_sc P r c with
      | none => rw [hs] at h; exact nomatch h
      | some b =>
        rw [hs] at h
        by_cases hr : r b < r c
        · simp only [hr, if_true] at h; exact nomatch h
        · simp only [hr, if_false] at h; exact nomatch h
    · rw [if_neg hP] at h
      by_cases e : i = c
      · subst e
        cases hq : P i with
        | false => rfl
        | true => exact absurd hq hP
      · exact ih h i (by omega)
theorem ss_sc_some {P : Nat → Bool} {r : Nat → Nat} : ∀ c b, ss_sc P r c = some b → b < c ∧ P b = true ∧ ∀ j, j < c → P j = true → j ≠ b → ss_ah r b j = true := by
  intro c
  induction c with
  | zero => intro b h; exact nomatch h
  | succ c ih =>
    intro b h
    rw [ss_sc] at h
    by_cases hP : P c = true
    · rw [if_pos hP] at h
      cases hs : ss_sc P r c with
      | none =>
        rw [hs] at h
        cases h
        refine ⟨by omega, hP, fun j hj Pj hne => ?_⟩
        have := ss_sc_none c hs j (by omega)
        rw [this] at Pj
        exact nomatch Pj
      | some d =>
        rw [hs] at h
        obtain ⟨hd, Pd, hj⟩ := ih d hs
        by_cases hr : r d < r c
        · simp only [hr, if_true] at h
          cases h
          refine ⟨by omega, hP, fun j hjc Pj hne => ?_⟩
          rw [ss_ah_iff]
          by_cases e : j = d
          · subst e; omega
          · have := ss_ah_iff.mp (hj j (by omega) Pj e)
            omega
        · simp only [hr, if_false] at h
          cases h
          refine ⟨by omega, Pd, fun j hjc Pj hne => ?_⟩
          by_cases e : j = c
          · subst e
            rw [ss_ah_iff]
            omega
          · exact hj j (by omega) Pj hne
    · rw [if_neg hP] at h
      obtain ⟨hd, Pd, hj⟩ := ih b h
      refine ⟨by omega, Pd, fun j hjc Pj hne => ?_⟩
      by_cases e : j = c
      · subst e; exact absurd Pj hP
      · exact hj j (by omega) Pj hne
/-- those at place t or behind it are open -/
def ss_op (A : Nat → Bool) (r : Nat → Nat) (c t : Nat) : Nat → Bool := fun j => A j && decide (t ≤ ss_pl A r c j)
theorem ss_op_iff {A : Nat → Bool} {r : Nat → Nat} {c t j : Nat} : ss_op A r c t j = true ↔ (A j = true ∧ t ≤ ss_pl A r c j) := by
  unfold ss_op
  rw [Bool.and_eq_true, decide_eq_true_iff]
theorem ss_best {A : Nat → Bool} {r : Nat → Nat} {c t b : Nat} (h : ss_sc (ss_op A r c t) r c = some b) : b < c ∧ A b = true ∧ t ≤ ss_pl A r c b ∧ ss_pl A r c b = ss_cnt (fun j => A j && decide (ss_pl A r c j < t)) c := by
  obtain ⟨hb, Pb, hj⟩ := ss_sc_some c b h
  obtain ⟨Ab, tb⟩ := ss_op_iff.mp Pb
  refine ⟨hb, Ab, tb, ss_cnt_congr (fun j hjc => ?_)⟩
  cases Aj : A j with
  | false => rfl
  | true =>
    show ss_ah r j b = decide (ss_pl A r c j < t)
    by_cases hp : ss_pl A r c j < t
    · rw [decide_eq_true hp]
      cases hh : ss_ah r j b with
      | true => rfl
      | false =>
        have hne : b ≠ j := fun z => by subst z; omega
        have := ss_pl_lt (r := r) hb Ab (ss_ah_tot hne hh)
        omega
    · rw [decide_eq_false hp]
      cases hh : ss_ah r j b with
      | false => rfl
      | true =>
        by_cases e : j = b
        · subst e; rw [ss_ah_irr] at hh; exact nomatch hh
        · have h1 := hj j hjc (ss_op_iff.mpr ⟨Aj, by omega⟩) e
          have h2 := ss_ah_tr h1 hh
          rw [ss_ah_irr] at h2
          exact nomatch h2
theorem ss_N {A : Nat → Bool} {r : Nat → Nat} {c : Nat} : ∀ t, t ≤ ss_cnt A c → ss_cnt (fun j => A j && decide (ss_pl A r c j < t)) c = t := by
  intro t
  induction t with
  | zero =>
    intro _
    refine ss_cnt_0 c (fun i _ => ?_)
    rw [decide_eq_false (by omega), Bool.and_false]
  | succ t ih =>
    intro ht
    have h0 := ih (by omega)
    cases hs : ss_sc (ss_op A r c t) r c with
    | none =>
      have h1 : ss_cnt A c ≤ ss_cnt (fun j => A j && decide (ss_pl A r c j < t)) c := ss_cnt_mono (fun i hi Ai => by
        have h2 := ss_sc_none c hs i hi
        rw [Bool.and_eq_true, decide_eq_true_iff]
        refine ⟨Ai, ?_⟩
        by_cases e : ss_pl A r c i < t
        · exact e
        · rw [ss_op_iff.mpr ⟨Ai, by omega⟩] at h2
          exact nomatch h2)
      omega
    | some b =>
      obtain ⟨hb, Ab, tb, hp⟩ := ss_best hs
      rw [h0] at hp
      have h4 : ss_cnt (fun j => A j && decide (ss_pl A r c j < t + 1)) c = ss_cnt (fun j => A j && decide (ss_pl A r c j < t)) c + 1 := by
        refine ss_cnt_add (b := b) ?_ ?_ c hb (fun i hi hne => ?_)
        · show (A b && decide (ss_pl A r c b < t)) = false
          rw [hp, decide_eq_false (by omega), Bool.and_false]
        · show (A b && decide (ss_pl A r c b < t + 1)) = true
          rw [Ab, hp, decide_eq_true (by omega)]; rfl
        · show (A i && decide (ss_pl A r c i < t + 1)) = (A i && decide (ss_pl A r c i < t))
          cases Ai : A i with
          | false => rfl
          | true =>
            have h3 : ss_pl A r c i ≠ t := fun z => hne (ss_pl_inj (r := r) hi hb Ai Ab (by omega))
            by_cases e : ss_pl A r c i < t
            · rw [decide_eq_true e, decide_eq_true (by omega)]
            · rw [decide_eq_false e, decide_eq_false (by omega)]
      rw [h4, h0]
theorem ss_scan {A : Nat → Bool} {r : Nat → Nat} {c t : Nat} (h : t < ss_cnt A c) : ∃ b, ss_sc (ss_op A r c t) r c = some b ∧ b < c ∧ A b = true ∧ ss_pl A r c b = t := by
  have h0 := ss_N (A := A) (r := r) (c := c) t (by omega)
  cases hs : ss_sc (ss_op A r c t) r c with
  | none =>
    have h1 : ss_cnt A c ≤ ss_cnt (fun j => A j && decide (ss_pl A r c j < t)) c := ss_cnt_mono (fun i hi Ai => by
      have h2 := ss_sc_none c hs i hi
      rw [Bool.and_eq_true, decide_eq_true_iff]
      refine ⟨Ai, ?_⟩
      by_cases e : ss_pl A r c i < t
      · exact e
      · rw [ss_op_iff.mpr ⟨Ai, by omega⟩] at h2
        exact nomatch h2)
    omega
  | some b =>
    obtain ⟨hb, Ab, _, hp⟩ := ss_best hs
    exact ⟨b, rfl, hb, Ab, hp.trans h0⟩
theorem ss_scan_end {A : Nat → Bool} {r : Nat → Nat} {c t : Nat} (h : ss_cnt A c ≤ t) : ss_sc (ss_op A r c t) r c = none := by
  cases hs : ss_sc (ss_op A r c t) r c with
  | none => rfl
  | some b =>
    obtain ⟨hb, Ab, tb, _⟩ := ss_best hs
    have := ss_pl_m (r := r) hb Ab
    omega
/-- seats given in this order, from the first one on again -/
def ss_rv (A : Nat → Bool) (r : Nat → Nat) (c m : Nat) (base : Nat → Nat) : Nat → Nat → Nat
  | 0 => base
  | s + 1 => fun i => if A i = true ∧ ss_pl A r c i = s % m then ss_rv A r c m base s i + 1 else ss_rv A r c m base s i
theorem ss_rv_step {A : Nat → Bool} {r : Nat → Nat} {c m s b i : Nat} {base : Nat → Nat} (hb : b < c) (Ab : A b = true) (hp : ss_pl A r c b = s % m) (hi : i < c) : ss_rv A r c m base (s + 1) i = if i = b then ss_rv A r c m base s i + 1 else ss_rv A r c m base s i := by
  show (if A i = true ∧ ss_pl A r c i = s % m then ss_rv A r c m base s i + 1 else ss_rv A r c m base s i) = _
  by_cases e : i = b
  · rw [if_pos e, if_pos ⟨by rw [e]; exact Ab, by rw [e]; exact hp⟩]
  · rw [if_neg e, if_neg (fun z => e (ss_pl_inj (r := r) hi hb z.1 Ab (by omega)))]
theorem ss_rv_le {A : Nat → Bool} {r : Nat → Nat} {c m : Nat} {base : Nat → Nat} : ∀ s i, ss_rv A r c m base s i ≤ base i + s := by
  intro s
  induction s with
  | zero => intro i; exact Nat.le_refl _
  | succ s ih =>
    intro i
    have := ih i
    show (if A i = true ∧ ss_pl A r c i = s % m then ss_rv A r c m base s i + 1 else ss_rv A r c m base s i) ≤ base i + (s + 1)
    by_cases e : A i = true ∧ ss_pl A r c i = s % m
    · rw [if_pos e]; omega
    · rw [if_neg e]; omega
/-! the share of list i -/
def ss_A (v : Nat → Nat) : Nat → Bool := fun i => decide (0 < v i)
def ss_bt (rule n : Nat) : Nat := if rule = 5 then n else 1
def ss_tq (rule V n : Nat) : Nat := if rule = 5 then V else V / (n + 1) + 1
def ss_ba (rule c : Nat) (v : Nat → Nat) (n : Nat) : Nat → Nat := fun i => v i * ss_bt rule n / ss_tq rule (ss_sum v c) n
def ss_re (rule c : Nat) (v : Nat → Nat) (n : Nat) : Nat → Nat := fun i => v i * ss_bt rule n % ss_tq rule (ss_sum v c) n
def ss_R (rule c : Nat) (v : Nat → Nat) (n : Nat) : Nat → Nat :=
  ss_rv (ss_A v) (ss_re rule c v n) c (ss_cnt (ss_A v) c) (ss_ba rule c v n) (n - ss_sum (ss_ba rule c v n) c)
def ss_S (rule c : Nat) (v : Nat → Nat) (n : Nat) : Nat → Nat :=
  if rule < 5 then ss_q rule c v n else if ss_sum v c = 0 ∨ n = 0 then fun _ => 0 else ss_R rule c v n
theorem ss_tq_pos {rule V n : Nat} (h : 0 < V) : 0 < ss_tq rule V n := by
  unfold ss_tq
  by_cases e : rule = 5
  · rw [if_pos e]; exact h
  · rw [if_neg e]; exact Nat.succ_pos _
theorem ss_ba_sum {rule c n : Nat} {v : Nat → Nat} (h : 0 < ss_sum v c) : ss_sum (ss_ba rule c v n) c ≤ n := by
  have h1 := ss_sum_div (x := fun i => v i * ss_bt rule n) (ss_tq rule (ss_sum v c) n) c
  have h2 : ss_sum (fun i => v i * ss_bt rule n) c = ss_sum v c * ss_bt rule n := ss_sum_mul _ c
  rw [h2] at h1
  have h3 : ss_sum (ss_ba rule c v n) c * ss_tq rule (ss_sum v c) n ≤ ss_sum v c * ss_bt rule n := h1
  generalize ss_sum (ss_ba rule c v n) c = S at h3
  generalize ss_sum v c = V at h h3
  unfold ss_tq ss_bt at h3
  by_cases e : rule = 5
  · rw [if_pos e, if_pos e, Nat.mul_comm V n] at h3
    exact Nat.le_of_mul_le_mul_right h3 h
  · rw [if_neg e, if_neg e, Nat.mul_one] at h3
    have h4 : V < (n + 1) * (V / (n + 1) + 1) := Nat.lt_mul_div_succ V (by omega)
    have h5 : S * (V / (n + 1) + 1) < (n + 1) * (V / (n + 1) + 1) := Nat.lt_of_le_of_lt h3 h4
    have := Nat.lt_of_mul_lt_mul_right h5
    omega
theorem ss_S_le {rule c n : Nat} {v : Nat → Nat} {i : Nat} (hi : i < c) : ss_S rule c v n i ≤ 2 * n := by
  unfold ss_S
  by_cases h5 : rule < 5
  · rw [if_pos h5]; have := ss_q_le (rule := rule) (c := c) (v := v) n i; omega
  · rw [if_neg h5]
    by_cases h0 : ss_sum v c = 0 ∨ n = 0
    · rw [if_pos h0]; exact Nat.zero_le _
    · rw [if_neg h0]
      have h1 := ss_ba_sum (rule := rule) (c := c) (n := n) (v := v) (by omega)
      have h2 := ss_sum_mem (f := ss_ba rule c v n) c hi
      have h3 := ss_rv_le (A := ss_A v) (r := ss_re rule c v n) (c := c) (m := ss_cnt (ss_A v) c) (base := ss_ba rule c v n) (n - ss_sum (ss_ba rule c v n) c) i
      show ss_rv _ _ _ _ _ _ i ≤ _
      omega
