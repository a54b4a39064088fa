section
/-! sums and counts below a bound -/
def ss_sum (f : Nat → Nat) : Nat → Nat
  | 0 => 0
  | i + 1 => ss_sum f i + f i
def ss_cnt (P : Nat → Bool) : Nat → Nat
  | 0 => 0
  | i + 1 => ss_cnt P i + (if P i = true then 1 else 0)
theorem ss_sum_congr {f g : Nat → Nat} {c : Nat} (h : ∀ i, i < c → f i = g i) : ss_sum f c = ss_sum g c := by
  induction c with
  | zero => rfl
  | succ c ih =>
    show ss_sum f c + f c = ss_sum g c + g c
    rw [ih (fun i hi => h i (by omega)), h c (by omega)]
theorem ss_sum_le {f : Nat → Nat} {c B : Nat} (h : ∀ i, i < c → f i ≤ B) : ss_sum f c ≤ c * B := by
  induction c with
  | zero => exact Nat.zero_le _
  | succ c ih =>
    have h1 := ih (fun i hi => h i (by omega))
    have h2 := h c (by omega)
    show ss_sum f c + f c ≤ (c + 1) * B
    rw [Nat.add_mul, Nat.one_mul]
    exact Nat.add_le_add h1 h2
theorem ss_sum_mem {f : Nat → Nat} {i : Nat} : ∀ c, i < c → f i ≤ ss_sum f c := by
  intro c
  induction c with
  | zero => intro h; omega
  | succ c ih =>
    intro h
    show f i ≤ ss_sum f c + f c
    by_cases e : i = c
    · subst e; omega
    · have := ih (by omega); omega
theorem ss_sum_0 {f : Nat → Nat} {c : Nat} (h : ss_sum f c = 0) : ∀ i, i < c → f i = 0 := by
  intro i hi
  have := ss_sum_mem (f := f) c hi
  omega
theorem ss_sum_pos {f : Nat → Nat} : ∀ c, 0 < ss_sum f c → ∃ i, i < c ∧ 0 < f i := by
  intro c
  induction c with
  | zero => intro h; exact absurd h (Nat.lt_irrefl 0)
  | succ c ih =>
    intro h
    have h' : 0 < ss_sum f c + f c := h
    by_cases e : 0 < f c
    · exact ⟨c, by omega, e⟩
    · obtain ⟨i, hi, hp⟩ := ih (by omega)
      exact ⟨i, by omega, hp⟩
theorem ss_sum_mul {f : Nat → Nat} (k : Nat) : ∀ c, ss_sum (fun i => f i * k) c = ss_sum f c * k := by
  intro c
  induction c with
  | zero => exact (Nat.zero_mul k).symm
  | succ c ih =>
    show ss_sum (fun i => f i * k) c + f c * k = (ss_sum f c + f c) * k
    rw [ih, Nat.add_mul]
theorem ss_sum_div {x : Nat → Nat} (d : Nat) : ∀ c, ss_sum (fun i => x i / d) c * d ≤ ss_sum x c := by
  intro c
  induction c with
  | zero => exact Nat.le_of_eq (Nat.zero_mul d)
  | succ c ih =>
    show (ss_sum (fun i => x i / d) c + x c / d) * d ≤ ss_sum x c + x c
    rw [Nat.add_mul]
    exact Nat.add_le_add ih (Nat.div_mul_le_self _ _)
/-- one entry taken away -/
theorem ss_sum_upd {f : Nat → Nat} {b : Nat} (z : Nat) : ∀ c, b < c → ss_sum (fun i => if i = b then z else f i) c + f b = ss_sum f c + z := by
  intro c
  induction c with
  | zero => intro h; omega
  | succ c ih =>
    intro h
    show ss_sum (fun i => if i = b then z else f i) c + (if c = b then z else f c) + f b = ss_sum f c + f c + z
    by_cases e : c = b
    · subst e
      have h1 : ss_sum (fun i => if i = c then z else f i) c = ss_sum f c :=
        ss_sum_congr (fun i hi => if_neg (by omega))
      rw [h1, if_pos rfl]; omega
    · have h1 := ih (by omega)
      rw [if_neg e]; omega
theorem ss_cnt_congr {P Q : Nat → Bool} {c : Nat} (h : ∀ i, i < c → P i = Q i) : ss_cnt P c = ss_cnt Q c := by
  induction c with
  | zero => rfl
  | succ c ih =>
    show ss_cnt P c + (if P c = true then 1 else 0) = ss_cnt Q c + (if Q c = true then 1 else 0)
    rw [ih (fun i hi => h i (by omega)), h c (by omega)]
theorem ss_cnt_mono {P Q : Nat → Bool} {c : Nat} (h : ∀ i, i < c → P i = true → Q i = true) : ss_cnt P c ≤ ss_cnt Q c := by
  induction c with
  | zero => exact Nat.le_refl _
  | succ c ih =>
    show ss_cnt P c + (if P c = true then 1 else 0) ≤ ss_cnt Q c + (if Q c = true then 1 else 0)
    have h1 := ih (fun i hi => h i (by omega))
    have h2 := h c (by omega)
    by_cases e : P c = true
    · rw [if_pos e, if_pos (h2 e)]; omega
    · rw [if_neg e]; omega
theorem ss_cnt_le (P : Nat → Bool) : ∀ c, ss_cnt P c ≤ c := by
  intro c
  induction c with
  | zero => exact Nat.le_refl _
  | succ c ih =>
    show ss_cnt P c + (if P c = true then 1 else 0) ≤ c + 1
    by_cases e : P c = true
    · rw [if_pos e]; omega
    · rw [if_neg e]; omega
theorem ss_cnt_add {P Q : Nat → Bool} {b : Nat} (hP : P b = false) (hQ : Q b = true) : ∀ c, b < c → (∀ i, i < c → i ≠ b → Q i = P i) → ss_cnt Q c = ss_cnt P c + 1 := by
  intro c
  induction c with
  | zero => intro h; omega
  | succ c ih =>
    intro hb h
    show ss_cnt Q c + (if Q c = true then 1 else 0) = ss_cnt P c + (if P c = true then 1 else 0) + 1
    by_cases e : b = c
    · subst e
      have h1 : ss_cnt Q b = ss_cnt P b := ss_cnt_congr (fun i hi => h i (by omega) (by omega))
      have h2 : ¬ P b = true := by rw [hP]; decide
      rw [h1, if_pos hQ, if_neg h2]
    · have h1 := ih (by omega) (fun i hi => h i (by omega))
      rw [h1, h c (by omega) (fun z => e z.symm)]
      generalize (if P c = true then 1 else 0) = z
      omega
theorem ss_cnt_lt {P Q : Nat → Bool} {b c : Nat} (hb : b < c) (hP : P b = false) (hQ : Q b = true) (h : ∀ i, i < c → P i = true → Q i = true) : ss_cnt P c < ss_cnt Q c := by
  have h1 : ss_cnt (fun i => if i = b then true else P i) c = ss_cnt P c + 1 :=
    ss_cnt_add hP (if_pos rfl) c hb (fun i _ hi => if_neg hi)
  have h2 : ss_cnt (fun i => if i = b then true else P i) c ≤ ss_cnt Q c := ss_cnt_mono (fun i hi hh => by
    by_cases e : i = b
    · rw [e]; exact hQ
    · rw [if_neg e] at hh; exact h i hi hh)
  omega
theorem ss_cnt_0 {P : Nat → Bool} : ∀ c, (∀ i, i < c → P i = false) → ss_cnt P c = 0 := by
  intro c
  induction c with
  | zero => intro _; rfl
  | succ c ih =>
    intro h
    have h2 : ¬ P c = true := by rw [h c (by omega)]; decide
    show ss_cnt P c + (if P c = true then 1 else 0) = 0
    rw [ih (fun i hi => h i (by omega)), if_neg h2]
theorem ss_cnt_pos {P : Nat → Bool} {c i : Nat} (hi : i < c) (h : P i = true) : 0 < ss_cnt P c := by
  have h0 : ss_cnt (fun _ => false) c = 0 := ss_cnt_0 c (fun _ _ => rfl)
  have := ss_cnt_lt (P := fun _ => false) (Q := P) hi rfl h (fun _ _ z => nomatch z)
  omega
/-! rules 0 to 4: the greatest open quotient -/
def ss_dv (rule k : Nat) : Nat :=
  if rule = 0 then k + 1 else if rule = 1 then 2 * k + 1 else if rule = 2 then (if k = 0 then 7 else 10 * k + 5) else if rule = 3 then k * (k + 1) else k
def ss_tp (rule v : Nat) : Nat := if rule = 3 then v * v else v
def ss_gr (rule v k w l : Nat) : Bool :=
  if ss_dv rule k = 0 ∧ ss_dv rule l = 0 then decide (w < v) else decide (ss_tp rule w * ss_dv rule k < ss_tp rule v * ss_dv rule l)
def ss_pick (rule : Nat) (v g : Nat → Nat) : Nat → Option Nat
  | 0 => none
  | i + 1 => if 0 < v i then (match ss_pick rule v g i with
      | none => some i
      | some b => if ss_gr rule (v i) (g i) (v b) (g b) = true then some i else some b) else ss_pick rule v g i
def ss_q (rule c : Nat) (v : Nat → Nat) : Nat → Nat → Nat
  | 0 => fun _ => 0
  | n + 1 => match ss_pick rule v (ss_q rule c v n) c with
      | none => ss_q rule c v n
      | some b => fun i => if i = b then ss_q rule c v n i + 1 else ss_q rule c v n i
theorem ss_pick_lt {rule : Nat} {v g : Nat → Nat} : ∀ (i b : Nat), ss_pick rule v g i = some b → b < i ∧ 0 < v b := by
  intro i
  induction i with
  | zero => intro b h; exact nomatch h
  | succ i ih =>
    intro b h
    rw [ss_pick] at h
    by_cases hv : 0 < v i
    · rw [if_pos hv] at h
      cases hp : ss_pick rule v g i with
      | none =>
        rw [hp] at h
        cases h
        exact ⟨by omega, hv⟩
      | some d =>
        rw [hp] at h
        have hd := ih d hp
        by_cases hg : ss_gr rule (v i) (g i) (v d) (g d) = true
        · simp only [hg, if_true] at h
          cases h
          exact ⟨by omega, hv⟩
        · simp only [hg] at h
          cases h
          exact ⟨by omega, hd.2⟩
    · rw [if_neg hv] at h
      have := ih b h
      exact ⟨by omega, this.2⟩
theorem ss_pick_congr {rule : Nat} {v g v' g' : Nat → Nat} : ∀ i, (∀ j, j < i → v j = v' j) → (∀ j, j < i → g j = g' j) → ss_pick rule v g i = ss_pick rule v' g' i := by
  intro i
  induction i with
  | zero => intro _ _; rfl
  | succ i ih =>
    intro hv hg
    have h1 := ih (fun j hj => hv j (by omega)) (fun j hj => hg j (by omega))
    rw [ss_pick, ss_pick, h1, hv i (by omega), hg i (by omega)]
    cases hp : ss_pick rule v' g' i with
    | none => rfl
    | some b =>
      have hb := (ss_pick_lt i b hp).1
      dsimp only
      rw [hv b (by omega), hg b (by omega)]
theorem ss_pick_none {rule : Nat} {v g : Nat → Nat} : ∀ i, (∀ j, j < i → v j = 0) → ss_pick rule v g i = none := by
  intro i
  induction i with
  | zero => intro _; rfl
  | succ i ih =>
    intro h
    have h0 := h i (by omega)
    rw [ss_pick, if_neg (by omega)]
    exact ih (fun j hj => h j (by omega))
theorem ss_q_none {rule c n : Nat} {v : Nat → Nat} (h : ss_pick rule v (ss_q rule c v n) c = none) : ss_q rule c v (n + 1) = ss_q rule c v n := by
  rw [ss_q, h]
theorem ss_q_some {rule c n b : Nat} {v : Nat → Nat} (h : ss_pick rule v (ss_q rule c v n) c = some b) : ss_q rule c v (n + 1) = fun i => if i = b then ss_q rule c v n i + 1 else ss_q rule c v n i := by
  rw [ss_q, h]
theorem ss_q_congr {rule c : Nat} {v v' : Nat → Nat} (h : ∀ j, j < c → v j = v' j) : ∀ n, ss_q rule c v n = ss_q rule c v' n := by
  intro n
  induction n with
  | zero => rfl
  | succ n ih => rw [ss_q, ss_q, ih, ss_pick_congr c h (fun _ _ => rfl)]
theorem ss_q_le {rule c : Nat} {v : Nat → Nat} : ∀ n i, ss_q rule c v n i ≤ n := by
  intro n
  induction n with
  | zero => intro i; exact Nat.le_refl _
  | succ n ih =>
    intro i
    have := ih i
    cases hp : ss_pick rule v (ss_q rule c v n) c with
    | none => rw [ss_q_none hp]; omega
    | some b =>
      rw [ss_q_some hp]
      show (if i = b then ss_q rule c v n i + 1 else ss_q rule c v n i) ≤ n + 1
      by_cases e : i = b
      · rw [if_pos e]; omega
      · rw [if_neg e]; omega
theorem ss_q_0 {rule c : Nat} {v : Nat → Nat} (h : ∀ j, j < c → v j = 0) : ∀ n i, ss_q rule c v n i = 0 := by
  intro n
  induction n with
  | zero => intro i; rfl
  | succ n ih => intro i; rw [ss_q_none (ss_pick_none c h)]; exact ih i
end
section
/-! rules 5 and 6: the order of the rests. A: which lists have votes; r: the rests -/
def ss_ah (r : Nat → Nat) (j i : Nat) : Bool := decide (r i < r j ∨ (r j = r i ∧ j < i))
theorem ss_ah_iff {r : Nat → Nat} {j i : Nat} : ss_ah r j i = true ↔ (r i < r j ∨ (r j = r i ∧ j < i)) := by
  unfold ss_ah; exact decide_eq_true_iff
theorem ss_ah_irr (r : Nat → Nat) (i : Nat) : ss_ah r i i = false := by
  cases h : ss_ah r i i with
  | false => rfl
  | true => have := ss_ah_iff.mp h; omega
theorem ss_ah_tr {r : Nat → Nat} {i j k : Nat} (h1 : ss_ah r k j = true) (h2 : ss_ah r j i = true) : ss_ah r k i = true := by
  rw [ss_ah_iff] at *
  omega
theorem ss_ah_tot {r : Nat → Nat} {i j : Nat} (h : i ≠ j) (h2 : ss_ah r j i = false) : ss_ah r i j = true := by
  have h3 : ¬ (r i < r j ∨ (r j = r i ∧ j < i)) := fun z => by
    rw [ss_ah_iff.mpr z] at h2; exact nomatch h2
  rw [ss_ah_iff]
  omega
/-- how many of those with votes stand ahead of i -/
def ss_pl (A : Nat → Bool) (r : Nat → Nat) (c i : Nat) : Nat := ss_cnt (fun j => A j && ss_ah r j i) c
theorem ss_pl_lt {A : Nat → Bool} {r : Nat → Nat} {c i j : Nat} (hj : j < c) (Aj : A j = true) (h : ss_ah r j i = true) : ss_pl A r c j < ss_pl A r c i :=
  ss_cnt_lt (b := j) hj (by rw [ss_ah_irr, Bool.and_false]) (by rw [Aj, h]; rfl)
    (fun k _ hk => by
      rw [Bool.and_eq_true] at hk ⊢
      exact ⟨hk.1, ss_ah_tr hk.2 h⟩)
theorem ss_pl_inj {A : Nat → Bool} {r : Nat → Nat} {c i j : Nat} (hi : i < c) (hj : j < c) (Ai : A i = true) (Aj : A j = true) (h : ss_pl A r c i = ss_pl A r c j) : i = j := by
  by_cases e : i = j
  · exact e
  · cases hh : ss_ah r j i with
    | false => have := ss_pl_lt (r := r) hi Ai (ss_ah_tot e hh); omega
    | true => have := ss_pl_lt (r := r) hj Aj hh; omega
theorem ss_pl_m {A : Nat → Bool} {r : Nat → Nat} {c i : Nat} (hi : i < c) (Ai : A i = true) : ss_pl A r c i < ss_cnt A c :=
  ss_cnt_lt (b := i) hi (by rw [ss_ah_irr, Bool.and_false]) Ai
    (fun k _ hk => by rw [Bool.and_eq_true] at hk; exact hk.1)
/-- the first of the greatest among those open -/
def ss_sc (P : Nat → Bool) (r : Nat → Nat) : Nat → Option Nat
  | 0 => none
  | i + 1 => if P i = true then (match ss_sc P r i with
      | none => some i
      | some b => if r b < r i then some i else some b) else ss_sc P r i
theorem ss_sc_congr {P Q : Nat → Bool} {r : Nat → Nat} : ∀ c, (∀ i, i < c → P i = Q i) → ss_sc P r c = ss_sc Q r c := by
  intro c
  induction c with
  | zero => intro _; rfl
  | succ c ih =>
    intro h
    rw [ss_sc, ss_sc, ih (fun i hi => h i (by omega)), h c (by omega)]
theorem ss_sc_none {P : Nat → Bool} {r : Nat → Nat} : ∀ c, ss_sc P r c = none → ∀ i, i < c → P i = false := by
  intro c
  induction c with
  | zero => intro _ i hi; omega
  | succ c ih =>
    intro h i hi
    rw [ss_sc] at h
    by_cases hP : P c = true
    · rw [if_pos hP] at h
      cases hs : ss_sc P r c with
      | none => rw [hs] at h; exact nomatch h
      | some b =>
        rw [hs] at h
        by_cases hr : r b < r c
        · simp only [hr, if_true] at h; exact nomatch h
        · simp only [hr, if_false] at h; exact nomatch h
    · rw [if_neg hP] at h
      by_cases e : i = c
      · subst e
        cases hq : P i with
        | false => rfl
        | true => exact absurd hq hP
      · exact ih h i (by omega)
theorem ss_sc_some {P : Nat → Bool} {r : Nat → Nat} : ∀ c b, ss_sc P r c = some b → b < c ∧ P b = true ∧ ∀ j, j < c → P j = true → j ≠ b → ss_ah r b j = true := by
  intro c
  induction c with
  | zero => intro b h; exact nomatch h
  | succ c ih =>
    intro b h
    rw [ss_sc] at h
    by_cases hP : P c = true
    · rw [if_pos hP] at h
      cases hs : ss_sc P r c with
      | none =>
        rw [hs] at h
        cases h
        refine ⟨by omega, hP, fun j hj Pj hne => ?_⟩
        have := ss_sc_none c hs j (by omega)
        rw [this] at Pj
        exact nomatch Pj
      | some d =>
        rw [hs] at h
        obtain ⟨hd, Pd, hj⟩ := ih d hs
        by_cases hr : r d < r c
        · simp only [hr, if_true] at h
          cases h
          refine ⟨by omega, hP, fun j hjc Pj hne => ?_⟩
          rw [ss_ah_iff]
          by_cases e : j = d
          · subst e; omega
          · have := ss_ah_iff.mp (hj j (by omega) Pj e)
            omega
        · simp only [hr, if_false] at h
          cases h
          refine ⟨by omega, Pd, fun j hjc Pj hne => ?_⟩
          by_cases e : j = c
          · subst e
            rw [ss_ah_iff]
            omega
          · exact hj j (by omega) Pj hne
    · rw [if_neg hP] at h
      obtain ⟨hd, Pd, hj⟩ := ih b h
      refine ⟨by omega, Pd, fun j hjc Pj hne => ?_⟩
      by_cases e : j = c
      · subst e; exact absurd Pj hP
      · exact hj j (by omega) Pj hne
/-- those at place t or behind it are open -/
def ss_op (A : Nat → Bool) (r : Nat → Nat) (c t : Nat) : Nat → Bool := fun j => A j && decide (t ≤ ss_pl A r c j)
theorem ss_op_iff {A : Nat → Bool} {r : Nat → Nat} {c t j : Nat} : ss_op A r c t j = true ↔ (A j = true ∧ t ≤ ss_pl A r c j) := by
  unfold ss_op
  rw [Bool.and_eq_true, decide_eq_true_iff]
theorem ss_best {A : Nat → Bool} {r : Nat → Nat} {c t b : Nat} (h : ss_sc (ss_op A r c t) r c = some b) : b < c ∧ A b = true ∧ t ≤ ss_pl A r c b ∧ ss_pl A r c b = ss_cnt (fun j => A j && decide (ss_pl A r c j < t)) c := by
  obtain ⟨hb, Pb, hj⟩ := ss_sc_some c b h
  obtain ⟨Ab, tb⟩ := ss_op_iff.mp Pb
  refine ⟨hb, Ab, tb, ss_cnt_congr (fun j hjc => ?_)⟩
  cases Aj : A j with
  | false => rfl
  | true =>
    show ss_ah r j b = decide (ss_pl A r c j < t)
    by_cases hp : ss_pl A r c j < t
    · rw [decide_eq_true hp]
      cases hh : ss_ah r j b with
      | true => rfl
      | false =>
        have hne : b ≠ j := fun z => by subst z; omega
        have := ss_pl_lt (r := r) hb Ab (ss_ah_tot hne hh)
        omega
    · rw [decide_eq_false hp]
      cases hh : ss_ah r j b with
      | false => rfl
      | true =>
        by_cases e : j = b
        · subst e; rw [ss_ah_irr] at hh; exact nomatch hh
        · have h1 := hj j hjc (ss_op_iff.mpr ⟨Aj, by omega⟩) e
          have h2 := ss_ah_tr h1 hh
          rw [ss_ah_irr] at h2
          exact nomatch h2
theorem ss_N {A : Nat → Bool} {r : Nat → Nat} {c : Nat} : ∀ t, t ≤ ss_cnt A c → ss_cnt (fun j => A j && decide (ss_pl A r c j < t)) c = t := by
  intro t
  induction t with
  | zero =>
    intro _
    refine ss_cnt_0 c (fun i _ => ?_)
    rw [decide_eq_false (by omega), Bool.and_false]
  | succ t ih =>
    intro ht
    have h0 := ih (by omega)
    cases hs : ss_sc (ss_op A r c t) r c with
    | none =>
      have h1 : ss_cnt A c ≤ ss_cnt (fun j => A j && decide (ss_pl A r c j < t)) c := ss_cnt_mono (fun i hi Ai => by
        have h2 := ss_sc_none c hs i hi
        rw [Bool.and_eq_true, decide_eq_true_iff]
        refine ⟨Ai, ?_⟩
        by_cases e : ss_pl A r c i < t
        · exact e
        · rw [ss_op_iff.mpr ⟨Ai, by omega⟩] at h2
          exact nomatch h2)
      omega
    | some b =>
      obtain ⟨hb, Ab, tb, hp⟩ := ss_best hs
      rw [h0] at hp
      have h4 : ss_cnt (fun j => A j && decide (ss_pl A r c j < t + 1)) c = ss_cnt (fun j => A j && decide (ss_pl A r c j < t)) c + 1 := by
        refine ss_cnt_add (b := b) ?_ ?_ c hb (fun i hi hne => ?_)
        · show (A b && decide (ss_pl A r c b < t)) = false
          rw [hp, decide_eq_false (by omega), Bool.and_false]
        · show (A b && decide (ss_pl A r c b < t + 1)) = true
          rw [Ab, hp, decide_eq_true (by omega)]; rfl
        · show (A i && decide (ss_pl A r c i < t + 1)) = (A i && decide (ss_pl A r c i < t))
          cases Ai : A i with
          | false => rfl
          | true =>
            have h3 : ss_pl A r c i ≠ t := fun z => hne (ss_pl_inj (r := r) hi hb Ai Ab (by omega))
            by_cases e : ss_pl A r c i < t
            · rw [decide_eq_true e, decide_eq_true (by omega)]
            · rw [decide_eq_false e, decide_eq_false (by omega)]
      rw [h4, h0]
theorem ss_scan {A : Nat → Bool} {r : Nat → Nat} {c t : Nat} (h : t < ss_cnt A c) : ∃ b, ss_sc (ss_op A r c t) r c = some b ∧ b < c ∧ A b = true ∧ ss_pl A r c b = t := by
  have h0 := ss_N (A := A) (r := r) (c := c) t (by omega)
  cases hs : ss_sc (ss_op A r c t) r c with
  | none =>
    have h1 : ss_cnt A c ≤ ss_cnt (fun j => A j && decide (ss_pl A r c j < t)) c := ss_cnt_mono (fun i hi Ai => by
      have h2 := ss_sc_none c hs i hi
      rw [Bool.and_eq_true, decide_eq_true_iff]
      refine ⟨Ai, ?_⟩
      by_cases e : ss_pl A r c i < t
      · exact e
      · rw [ss_op_iff.mpr ⟨Ai, by omega⟩] at h2
        exact nomatch h2)
    omega
  | some b =>
    obtain ⟨hb, Ab, _, hp⟩ := ss_best hs
    exact ⟨b, rfl, hb, Ab, hp.trans h0⟩
theorem ss_scan_end {A : Nat → Bool} {r : Nat → Nat} {c t : Nat} (h : ss_cnt A c ≤ t) : ss_sc (ss_op A r c t) r c = none := by
  cases hs : ss_sc (ss_op A r c t) r c with
  | none => rfl
  | some b =>
    obtain ⟨hb, Ab, tb, _⟩ := ss_best hs
    have := ss_pl_m (r := r) hb Ab
    omega
/-- seats given in this order, from the first one on again -/
def ss_rv (A : Nat → Bool) (r : Nat → Nat) (c m : Nat) (base : Nat → Nat) : Nat → Nat → Nat
  | 0 => base
  | s + 1 => fun i => if A i = true ∧ ss_pl A r c i = s % m then ss_rv A r c m base s i + 1 else ss_rv A r c m base s i
theorem ss_rv_step {A : Nat → Bool} {r : Nat → Nat} {c m s b i : Nat} {base : Nat → Nat} (hb : b < c) (Ab : A b = true) (hp : ss_pl A r c b = s % m) (hi : i < c) : ss_rv A r c m base (s + 1) i = if i = b then ss_rv A r c m base s i + 1 else ss_rv A r c m base s i := by
  show (if A i = true ∧ ss_pl A r c i = s % m then ss_rv A r c m base s i + 1 else ss_rv A r c m base s i) = _
  by_cases e : i = b
  · rw [if_pos e, if_pos ⟨by rw [e]; exact Ab, by rw [e]; exact hp⟩]
  · rw [if_neg e, if_neg (fun z => e (ss_pl_inj (r := r) hi hb z.1 Ab (by omega)))]
theorem ss_rv_le {A : Nat → Bool} {r : Nat → Nat} {c m : Nat} {base : Nat → Nat} : ∀ s i, ss_rv A r c m base s i ≤ base i + s := by
  intro s
  induction s with
  | zero => intro i; exact Nat.le_refl _
  | succ s ih =>
    intro i
    have := ih i
    show (if A i = true ∧ ss_pl A r c i = s % m then ss_rv A r c m base s i + 1 else ss_rv A r c m base s i) ≤ base i + (s + 1)
    by_cases e : A i = true ∧ ss_pl A r c i = s % m
    · rw [if_pos e]; omega
    · rw [if_neg e]; omega
/-! the share of list i -/
def ss_A (v : Nat → Nat) : Nat → Bool := fun i => decide (0 < v i)
def ss_bt (rule n : Nat) : Nat := if rule = 5 then n else 1
def ss_tq (rule V n : Nat) : Nat := if rule = 5 then V else V / (n + 1) + 1
def ss_ba (rule c : Nat) (v : Nat → Nat) (n : Nat) : Nat → Nat := fun i => v i * ss_bt rule n / ss_tq rule (ss_sum v c) n
def ss_re (rule c : Nat) (v : Nat → Nat) (n : Nat) : Nat → Nat := fun i => v i * ss_bt rule n % ss_tq rule (ss_sum v c) n
def ss_R (rule c : Nat) (v : Nat → Nat) (n : Nat) : Nat → Nat :=
  ss_rv (ss_A v) (ss_re rule c v n) c (ss_cnt (ss_A v) c) (ss_ba rule c v n) (n - ss_sum (ss_ba rule c v n) c)
def ss_S (rule c : Nat) (v : Nat → Nat) (n : Nat) : Nat → Nat :=
  if rule < 5 then ss_q rule c v n else if ss_sum v c = 0 ∨ n = 0 then fun _ => 0 else ss_R rule c v n
theorem ss_tq_pos {rule V n : Nat} (h : 0 < V) : 0 < ss_tq rule V n := by
  unfold ss_tq
  by_cases e : rule = 5
  · rw [if_pos e]; exact h
  · rw [if_neg e]; exact Nat.succ_pos _
theorem ss_ba_sum {rule c n : Nat} {v : Nat → Nat} (h : 0 < ss_sum v c) : ss_sum (ss_ba rule c v n) c ≤ n := by
  have h1 := ss_sum_div (x := fun i => v i * ss_bt rule n) (ss_tq rule (ss_sum v c) n) c
  have h2 : ss_sum (fun i => v i * ss_bt rule n) c = ss_sum v c * ss_bt rule n := ss_sum_mul _ c
  rw [h2] at h1
  have h3 : ss_sum (ss_ba rule c v n) c * ss_tq rule (ss_sum v c) n ≤ ss_sum v c * ss_bt rule n := h1
  generalize ss_sum (ss_ba rule c v n) c = S at h3
  generalize ss_sum v c = V at h h3
  unfold ss_tq ss_bt at h3
  by_cases e : rule = 5
  · rw [if_pos e, if_pos e, Nat.mul_comm V n] at h3
    exact Nat.le_of_mul_le_mul_right h3 h
  · rw [if_neg e, if_neg e, Nat.mul_one] at h3
    have h4 : V < (n + 1) * (V / (n + 1) + 1) := Nat.lt_mul_div_succ V (by omega)
    have h5 : S * (V / (n + 1) + 1) < (n + 1) * (V / (n + 1) + 1) := Nat.lt_of_le_of_lt h3 h4
    have := Nat.lt_of_mul_lt_mul_right h5
    omega
theorem ss_S_le {rule c n : Nat} {v : Nat → Nat} {i : Nat} (hi : i < c) : ss_S rule c v n i ≤ 2 * n := by
  unfold ss_S
  by_cases h5 : rule < 5
  · rw [if_pos h5]; have := ss_q_le (rule := rule) (c := c) (v := v) n i; omega
  · rw [if_neg h5]
    by_cases h0 : ss_sum v c = 0 ∨ n = 0
    · rw [if_pos h0]; exact Nat.zero_le _
    · rw [if_neg h0]
      have h1 := ss_ba_sum (rule := rule) (c := c) (n := n) (v := v) (by omega)
      have h2 := ss_sum_mem (f := ss_ba rule c v n) c hi
      have h3 := ss_rv_le (A := ss_A v) (r := ss_re rule c v n) (c := c) (m := ss_cnt (ss_A v) c) (base := ss_ba rule c v n) (n - ss_sum (ss_ba rule c v n) c) i
      show ss_rv _ _ _ _ _ _ i ≤ _
      omega
end
section
/-! next: the list whose share is greater with one seat more -/
theorem ss_next_none {rule c n : Nat} {v : Nat → Nat} (h : ss_pick rule v (ss_q rule c v n) c = none) (i : Nat) : ¬ ss_q rule c v n i < ss_q rule c v (n + 1) i := by
  rw [ss_q_none h]; omega
theorem ss_next_some {rule c n b : Nat} {v : Nat → Nat} (h : ss_pick rule v (ss_q rule c v n) c = some b) (i : Nat) : ss_q rule c v n i < ss_q rule c v (n + 1) i ↔ i = b := by
  rw [ss_q_some h]
  show ss_q rule c v n i < (if i = b then ss_q rule c v n i + 1 else ss_q rule c v n i) ↔ i = b
  by_cases e : i = b
  · rw [if_pos e]; exact ⟨fun _ => e, fun _ => by omega⟩
  · rw [if_neg e]; exact ⟨fun z => by omega, fun z => absurd z e⟩
/-! fall, moved: gains -/
def ss_gain (a b : Nat → Nat) (c : Nat) : Nat := ss_sum (fun i => b i - a i) c
theorem ss_gain_pos {a b : Nat → Nat} {c : Nat} : 0 < ss_gain a b c ↔ ∃ i, i < c ∧ a i < b i := by
  constructor
  · intro h
    obtain ⟨i, hi, hp⟩ := ss_sum_pos c h
    exact ⟨i, hi, by have : 0 < b i - a i := hp; omega⟩
  · intro ⟨i, hi, hp⟩
    have h1 := ss_sum_mem (f := fun i => b i - a i) c hi
    have h2 : b i - a i ≤ ss_gain a b c := h1
    omega
/-! majority: the greatest taken one by one -/
def ss_mx (g : Nat → Nat) : Nat → Nat
  | 0 => 0
  | i + 1 => if g (ss_mx g i) < g i then i else ss_mx g i
theorem ss_mx_lt {g : Nat → Nat} : ∀ c, 0 < c → ss_mx g c < c := by
  intro c
  induction c with
  | zero => intro h; omega
  | succ c ih =>
    intro _
    show (if g (ss_mx g c) < g c then c else ss_mx g c) < c + 1
    by_cases e : g (ss_mx g c) < g c
    · rw [if_pos e]; omega
    · rw [if_neg e]
      cases c with
      | zero => exact Nat.zero_lt_one
      | succ c => have := ih (by omega); omega
theorem ss_mx_ge {g : Nat → Nat} : ∀ c i, i < c → g i ≤ g (ss_mx g c) := by
  intro c
  induction c with
  | zero => intro i h; omega
  | succ c ih =>
    intro i hi
    show g i ≤ g (if g (ss_mx g c) < g c then c else ss_mx g c)
    by_cases e : g (ss_mx g c) < g c
    · rw [if_pos e]
      by_cases e2 : i = c
      · subst e2; exact Nat.le_refl _
      · have := ih i (by omega); omega
    · rw [if_neg e]
      by_cases e2 : i = c
      · subst e2; omega
      · exact ih i (by omega)
def ss_z (g : Nat → Nat) (b : Nat) : Nat → Nat := fun i => if i = b then 0 else g i
/-- taken so far: h; k lists; f turns are left -/
def ss_mj (c all : Nat) : Nat → (Nat → Nat) → Nat → Nat → Nat
  | 0, _, _, _ => 0
  | f + 1, g, h, k => if all < 2 * (h + g (ss_mx g c)) then k + 1 else ss_mj c all f (ss_z g (ss_mx g c)) (h + g (ss_mx g c)) (k + 1)
def ss_nz (g : Nat → Nat) (c : Nat) : Nat := ss_cnt (fun i => decide (0 < g i)) c
theorem ss_z_sum {g : Nat → Nat} {b c : Nat} (hb : b < c) : ss_sum (ss_z g b) c + g b = ss_sum g c := by
  have := ss_sum_upd (f := g) (b := b) 0 c hb
  exact this
theorem ss_z_nz {g : Nat → Nat} {b c : Nat} (hb : b < c) (h : 0 < g b) : ss_nz (ss_z g b) c + 1 = ss_nz g c := by
  refine (ss_cnt_add (P := fun i => decide (0 < ss_z g b i)) (Q := fun i => decide (0 < g i)) (b := b) ?_ ?_ c hb (fun i _ hi => ?_)).symm
  · show decide (0 < (if b = b then 0 else g b)) = false
    rw [if_pos rfl]; rfl
  · exact decide_eq_true h
  · show decide (0 < g i) = decide (0 < (if i = b then 0 else g i))
    rw [if_neg hi]
/-- where there are seats, the reference's loop and the turns agree: the turns don't run out -/
theorem ss_mj_live {c all f h : Nat} {g : Nat → Nat} (hc : 0 < c) (hs : h + ss_sum g c = all) (ha : 0 < all) (h2 : 2 * h ≤ all) (hn : ss_nz g c ≤ f) : 0 < f ∧ 0 < g (ss_mx g c) ∧ h + g (ss_mx g c) + ss_sum (ss_z g (ss_mx g c)) c = all ∧ ss_nz (ss_z g (ss_mx g c)) c ≤ f - 1 := by
  have hb := ss_mx_lt (g := g) c hc
  obtain ⟨i, hi, hp⟩ := ss_sum_pos (f := g) c (by omega)
  have hm := ss_mx_ge (g := g) c i hi
  have hg : 0 < g (ss_mx g c) := by omega
  have hz := ss_z_sum (g := g) hb
  have hq := ss_z_nz (g := g) hb hg
  exact ⟨by omega, hg, by omega, by omega⟩
end
section
/-! rows of kit/rows -/
theorem pk_us {f : Nat → Int32} {k : Nat} {x : Int32} : upd f k x k = x := if_pos rfl
theorem pk_un {f : Nat → Int32} {k j : Nat} {x : Int32} (h : j ≠ k) : upd f k x j = f j := if_neg h
theorem pk_sub {a b : Nat} (h : b ≤ a) : nI a - nI b = nI (a - b) := by
  obtain ⟨c, rfl⟩ : ∃ c, a = c + b := ⟨a - b, by omega⟩
  rw [← nI_add, Int32.add_sub_cancel, Nat.add_sub_cancel]
theorem pk_m1 (n : Nat) : nI (n + 1) + (-1) = nI n := by
  rw [← nI_1, Int32.add_assoc, show (1 : Int32) + (-1) = 0 from rfl, Int32.add_zero]
theorem pk_mul (a b : Nat) : nI a * nI b = nI (a * b) := (Int32.ofNat_mul a b).symm
theorem pk_div {a d : Nat} (ha : a < 2 ^ 31) (h0 : 0 < d) (hd : d < 2 ^ 31) : nI a / nI d = nI (a / d) := by
  apply Int32.toInt_inj.mp
  rw [lg_idiv_nonneg (by rw [nI_toInt ha]; omega) (by rw [nI_toInt hd]; omega), nI_toInt ha, nI_toInt hd, nI_toInt (Nat.lt_of_le_of_lt (Nat.div_le_self a d) ha)]
  first | rfl | exact (Int.natCast_ediv _ _).symm
theorem pk_rem {a d : Nat} (ha : a < 2 ^ 31) (h0 : 0 < d) (hd : d < 2 ^ 31) : nI a - nI a / nI d * nI d = nI (a % d) := by
  rw [pk_div ha h0 hd, pk_mul, pk_sub (Nat.div_mul_le_self a d)]
  exact congrArg nI (by have := Nat.div_add_mod' a d; omega)
theorem pk_ix (x : Int32) {n : Nat} (hn : n < 2 ^ 31) : x < 0 ∨ nI n ≤ x ∨ ∃ j : Nat, j < n ∧ x = nI j := by
  by_cases h : x < 0
  · exact Or.inl h
  · obtain ⟨j, hj, rfl⟩ := nI_of h
    by_cases h2 : j < n
    · exact Or.inr (Or.inr ⟨j, h2, rfl⟩)
    · exact Or.inr (Or.inl (nI_le (by omega) hj))
theorem pk_le {x y : Int32} {A B : Prop} (a b : Nat) (f : a ≤ b → A) (g : b < a → B) (hx : x = nI a := by rfl) (hy : y = nI b := by rfl) (ha : a < 2 ^ 31 := by omega) (hb : b < 2 ^ 31 := by omega) : (x ≤ y → A) ∧ (¬ x ≤ y → B) := by
  subst hx hy
  rw [nI_leI ha hb]
  exact ⟨f, fun z => g (by omega)⟩
theorem pk_lt {x y : Int32} {A B : Prop} (a b : Nat) (f : a < b → A) (g : b ≤ a → B) (hx : x = nI a := by rfl) (hy : y = nI b := by rfl) (ha : a < 2 ^ 31 := by omega) (hb : b < 2 ^ 31 := by omega) : (x < y → A) ∧ (¬ x < y → B) := by
  subst hx hy
  rw [nI_ltI ha hb]
  exact ⟨f, fun z => g (by omega)⟩
theorem pk_eq {x y : Int32} {A B : Prop} (a b : Nat) (f : a = b → A) (g : a ≠ b → B) (hx : x = nI a := by rfl) (hy : y = nI b := by rfl) (ha : a < 2 ^ 31 := by omega) (hb : b < 2 ^ 31 := by omega) : (x = y → A) ∧ (¬ x = y → B) := by
  subst hx hy
  rw [nI_eq ha hb]
  exact ⟨f, g⟩
theorem pk_in {x : Int32} (n N : Nat) (h : n < N) (hx : x = nI n := by rfl) (hN : N < 2 ^ 31 := by omega) : vp_in x N := by
  subst hx
  exact vp_in_nI h hN
theorem pk_cl {x : Int32} (n : Nat) (hx : x = nI n := by rfl) (h : n < 2 ^ 31 := by omega) : x.toNatClampNeg = n := by
  subst hx
  exact nI_clamp h
theorem pk_lT {n : Nat} (h : n < 2 ^ 63) : (lN n).toInt = (n : Int) := lg_ofNat_toInt h
theorem pk_lLT {a b : Nat} (ha : a < 2 ^ 63) (hb : b < 2 ^ 63) : lN a < lN b ↔ a < b := by
  rw [Int64.lt_iff_toInt_lt, pk_lT ha, pk_lT hb]; omega
theorem pk_lLE {a b : Nat} (ha : a < 2 ^ 63) (hb : b < 2 ^ 63) : lN a ≤ lN b ↔ a ≤ b := by
  rw [Int64.le_iff_toInt_le, pk_lT ha, pk_lT hb]; omega
theorem pk_lEQ {a b : Nat} (ha : a < 2 ^ 63) (hb : b < 2 ^ 63) : lN a = lN b ↔ a = b := by
  rw [← Int64.toInt_inj, pk_lT ha, pk_lT hb]; omega
theorem pk_loop {σ : Type} (W : Nat → Nat → σ → Prop) (I : Nat → σ → Prop) (e i0 : Nat) (s : σ) (hi : i0 ≤ e) (h0 : I i0 s) (hx : ∀ n s, I e s → W (n + 1) e s)
    (hs : ∀ n i s, i < e → I i s → (∀ s', I (i + 1) s' → W n (i + 1) s') → W (n + 1) i s) : ∃ n, W n i0 s :=
  ⟨e + 1, loop_i W I e hx hs (e + 1) i0 s hi (by omega) h0⟩
theorem ek_if {c d A B : Prop} (e : c ↔ d) (f : d → A) (g : ¬ d → B) : (c → A) ∧ (¬ c → B) :=
  ⟨fun z => f (e.mp z), fun z => g (fun y => z (e.mpr y))⟩
def bt (x : Int32) (i : Nat) : Bool := x.toBitVec.getLsbD i
theorem b_ext {x y : Int32} (h : ∀ i, i < 32 → bt x i = bt y i) : x = y := Int32.toBitVec_inj.mp (BitVec.eq_of_getLsbD_eq (fun i hi => h i hi))
theorem b_or (x y : Int32) (i : Nat) : bt (x ||| y) i = (bt x i || bt y i) := by unfold bt; rw [Int32.toBitVec_or, BitVec.getLsbD_or]
theorem b_and (x y : Int32) (i : Nat) : bt (x &&& y) i = (bt x i && bt y i) := by unfold bt; rw [Int32.toBitVec_and, BitVec.getLsbD_and]
theorem b_big {x : Int32} {i : Nat} (h : 32 ≤ i) : bt x i = false := BitVec.getLsbD_of_ge _ _ h
theorem b_0 (i : Nat) : bt 0 i = false := BitVec.getLsbD_zero
theorem s_l : ∀ n, n < 32 → ((nI n &&& 31).toBitVec.smod 32).toNat = n := by decide +kernel
theorem b_shl (n : Nat) (hn : n < 32) (x : Int32) {i : Nat} (hi : i < 32) : bt (x <<< (nI n &&& 31)) i = (decide (n ≤ i) && bt x (i - n)) := by
  unfold bt
  rw [Int32.toBitVec_shiftLeft]
  show (x.toBitVec <<< ((nI n &&& 31).toBitVec.smod 32).toNat).getLsbD i = _
  rw [s_l n hn, BitVec.getLsbD_shiftLeft]
  rcases Nat.lt_or_ge i n with h | h
  · simp [h, Nat.not_le.mpr h]
  · simp [hi, h, Nat.not_lt.mpr h]
theorem b_sshr (n : Nat) (hn : n < 32) (x : Int32) {i : Nat} (hi : i < 32) : bt (x >>> (nI n &&& 31)) i = if n + i < 32 then bt x (n + i) else bt x 31 := by
  unfold bt
  rw [Int32.toBitVec_shiftRight]
  show (x.toBitVec.sshiftRight ((nI n &&& 31).toBitVec.smod 32).toNat).getLsbD i = _
  rw [s_l n hn, BitVec.getLsbD_sshiftRight, BitVec.msb_eq_getLsbD_last]
  simp [hi]
/-! own rows: loops, codes, branches -/
theorem ss_loop (W : Nat → Nat → Prop) (e i0 : Nat) (hi : i0 ≤ e) (hx : ∀ n, W (n + 1) e) (hs : ∀ n i, i0 ≤ i → i < e → W n (i + 1) → W (n + 1) i) : ∃ n, W n i0 := by
  have h : ∀ d i, i0 ≤ i → i + d = e → W (d + 1) i := by
    intro d
    induction d with
    | zero => intro i _ h; have e' : i = e := by omega
              rw [e']; exact hx 0
    | succ d ih => intro i h0 h; exact hs (d + 1) i h0 (by omega) (ih (i + 1) (by omega) (by omega))
  exact ⟨e - i0 + 1, h (e - i0) i0 (Nat.le_refl _) (by omega)⟩
theorem ss_cnt_f {P : Nat → Bool} {i : Nat} (h : P i = false) : ss_cnt P (i + 1) = ss_cnt P i := by
  show ss_cnt P i + (if P i = true then 1 else 0) = ss_cnt P i
  rw [h]; rfl
theorem ss_cnt_t {P : Nat → Bool} {i : Nat} (h : P i = true) : ss_cnt P (i + 1) = ss_cnt P i + 1 := by
  show ss_cnt P i + (if P i = true then 1 else 0) = ss_cnt P i + 1
  rw [h]; rfl
theorem ss_sum_mono {f : Nat → Nat} {a : Nat} : ∀ b, a ≤ b → ss_sum f a ≤ ss_sum f b := by
  intro b
  induction b with
  | zero => intro h; have e : a = 0 := by omega
            rw [e]; exact Nat.le_refl _
  | succ b ih =>
    intro h
    by_cases e : a = b + 1
    · rw [e]; exact Nat.le_refl _
    · have h1 := ih (by omega)
      have h2 : ss_sum f (b + 1) = ss_sum f b + f b := rfl
      omega
/-- an array that shows these numbers below c -/
def ss_sh (c : Nat) (a : Nat → Int32) (g : Nat → Nat) : Prop := ∀ i, i < c → a i = nI (g i)
theorem ss_sh_at {c : Nat} {a : Nat → Int32} {g : Nat → Nat} (h : ss_sh c a g) {i : Nat} (hc : c ≤ 6) (hi : i < c) : a (nI i).toNatClampNeg = nI (g i) := by
  rw [nI_clamp (by omega)]; exact h i hi
theorem ss_sh_up {c b x : Nat} {a : Nat → Int32} {g g' : Nat → Nat} (h : ss_sh c a g) (hg : ∀ i, i < c → g' i = if i = b then x else g i) : ss_sh c (upd a b (nI x)) g' := by
  intro i hi
  rw [hg i hi]
  by_cases e : i = b
  · rw [if_pos e, e]; exact pk_us
  · rw [if_neg e, pk_un e]; exact h i hi
/-- one more cell written -/
theorem ss_sh_s {i : Nat} {a : Nat → Int32} {g : Nat → Nat} (h : ss_sh i a g) : ss_sh (i + 1) (upd a i (nI (g i))) g := by
  intro j hj
  by_cases e : j = i
  · rw [e]; exact pk_us
  · rw [pk_un e]; exact h j (by omega)
theorem ss_sh_0 {a : Nat → Int32} {g : Nat → Nat} : ss_sh 0 a g := fun i hi => absurd hi (Nat.not_lt_zero i)
theorem ss_sh_le {c d : Nat} {a : Nat → Int32} {g : Nat → Nat} (hd : d ≤ c) (h : ss_sh c a g) : ss_sh d a g := fun i hi => h i (by omega)
theorem ss_sh_eq {c : Nat} {a : Nat → Int32} {g g' : Nat → Nat} (h : ss_sh c a g) (e : ∀ i, i < c → g' i = g i) : ss_sh c a g' := fun i hi => by rw [e i hi]; exact h i hi
theorem ss_upd_f {p : Nat → Nat} {k x : Nat} : upd (fun i => nI (p i)) k (nI x) = fun i => nI (if i = k then x else p i) := by
  funext i
  by_cases e : i = k
  · rw [e, if_pos rfl]; exact pk_us
  · rw [if_neg e]; exact pk_un e
/-! the bit of a mask -/
theorem ss_bt1 : ∀ i, i < 32 → bt 1 i = decide (i = 0) := by decide +kernel
theorem ss_bit (x : Int32) {i : Nat} (hi : i < 32) : ((x >>> (nI i &&& 31)) &&& 1) = 0 ↔ bt x i = false := by
  constructor
  · intro h
    have h1 : bt ((x >>> (nI i &&& 31)) &&& 1) 0 = bt 0 0 := by rw [h]
    rw [b_and, b_0, b_sshr i hi x (by omega), ss_bt1 0 (by omega), if_pos (by omega)] at h1
    have h2 : (bt x (i + 0) && true) = false := h1
    rw [Bool.and_true] at h2
    exact h2
  · intro h
    refine b_ext (fun j hj => ?_)
    rw [b_and, b_0, b_sshr i hi x hj, ss_bt1 j hj]
    by_cases e : j = 0
    · subst e
      rw [if_pos (by omega)]
      show (bt x i && true) = false
      rw [h]; rfl
    · rw [decide_eq_false e, Bool.and_false]
theorem ss_bor (x : Int32) {i j : Nat} (hi : i < 32) (hj : j < 32) : bt (x ||| ((1 : Int32) <<< (nI i &&& 31))) j = (bt x j || decide (j = i)) := by
  rw [b_or, b_shl i hi 1 hj]
  by_cases e : i ≤ j
  · rw [decide_eq_true e, ss_bt1 (j - i) (by omega), Bool.true_and]
    by_cases e2 : j = i
    · rw [decide_eq_true e2, decide_eq_true (by omega)]
    · rw [decide_eq_false e2, decide_eq_false (by omega)]
  · rw [decide_eq_false e, Bool.false_and, decide_eq_false (by omega)]
/-! the comparison of two quotients, as the class and as the reference do it -/
def ss_gt (t b t' b' : Nat) : Bool := if b = 0 ∧ b' = 0 then decide (t' < t) else decide (t' * b < t * b')
theorem ss_gr_gt (r v k w l : Nat) : ss_gr r v k w l = ss_gt (ss_tp r v) (ss_dv r k) (ss_tp r w) (ss_dv r l) := by
  unfold ss_gr ss_gt
  by_cases e : ss_dv r k = 0 ∧ ss_dv r l = 0
  · rw [if_pos e, if_pos e]
    unfold ss_tp
    by_cases e3 : r = 3
    · rw [if_pos e3, if_pos e3]
      have h : w * w < v * v ↔ w < v := Nat.mul_self_lt_mul_self_iff
      by_cases e4 : w < v
      · rw [decide_eq_true e4, decide_eq_true (h.mpr e4)]
      · rw [decide_eq_false e4, decide_eq_false (fun z => e4 (h.mp z))]
    · rw [if_neg e3, if_neg e3]
  · rw [if_neg e, if_neg e]
def ss_wt (r v k : Nat) : Nat := if r = 3 ∧ 0 < k then v * v else v
def ss_gy (r v k w l : Nat) : Bool := if ss_dv r k = 0 ∧ ss_dv r l = 0 then decide (w < v) else decide (ss_wt r w l * ss_dv r k < ss_wt r v k * ss_dv r l)
theorem ss_pos_sq {v x : Nat} : 0 < v * x ↔ 0 < v * v * x := by
  by_cases hv : v = 0
  · subst hv; simp
  · by_cases hx : x = 0
    · subst hx; simp
    · exact ⟨fun _ => Nat.mul_pos (Nat.mul_pos (by omega) (by omega)) (by omega), fun _ => Nat.mul_pos (by omega) (by omega)⟩
theorem ss_dv3 (k : Nat) : ss_dv 3 k = k * (k + 1) := rfl
theorem ss_gy_gr (r v k w l : Nat) : ss_gy r v k w l = ss_gr r v k w l := by
  unfold ss_gy ss_gr
  by_cases e : ss_dv r k = 0 ∧ ss_dv r l = 0
  · rw [if_pos e, if_pos e]
  · rw [if_neg e, if_neg e]
    by_cases e3 : r = 3
    · subst e3
      have hk : ∀ x k, 0 < k → ss_wt 3 x k = x * x := fun x k h => if_pos ⟨rfl, h⟩
      have hn : ∀ x, ss_wt 3 x 0 = x := fun x => if_neg (fun z => absurd z.2 (Nat.lt_irrefl 0))
      have ht : ∀ x, ss_tp 3 x = x * x := fun x => if_pos rfl
      rw [ht, ht, ss_dv3, ss_dv3]
      by_cases ek : 0 < k
      · rw [hk v k ek]
        by_cases el : 0 < l
        · rw [hk w l el]
        · have l0 : l = 0 := by omega
          subst l0
          simp
      · have k0 : k = 0 := by omega
        subst k0
        rw [hn v, Nat.zero_mul, Nat.mul_zero, Nat.mul_zero]
        exact decide_eq_decide.mpr ss_pos_sq
    · unfold ss_wt ss_tp
      rw [if_neg e3, if_neg e3, if_neg (fun z => e3 z.1), if_neg (fun z => e3 z.1)]
/-! bounds -/
theorem ss_tp_lt {r v : Nat} (h : v ≤ 2999) : ss_tp r v < 2 ^ 31 := by
  unfold ss_tp
  by_cases e : r = 3
  · rw [if_pos e]
    have := Nat.mul_le_mul h h
    omega
  · rw [if_neg e]; omega
theorem ss_wt_lt {r v k : Nat} (h : v ≤ 2999) : ss_wt r v k < 2 ^ 31 := by
  unfold ss_wt
  by_cases e : r = 3 ∧ 0 < k
  · rw [if_pos e]
    have := Nat.mul_le_mul h h
    omega
  · rw [if_neg e]; omega
theorem ss_dv_lt {r k : Nat} (h : k ≤ 31) : ss_dv r k < 2 ^ 31 := by
  unfold ss_dv
  have h1 : k * (k + 1) ≤ 31 * 32 := Nat.mul_le_mul h (by omega)
  by_cases e0 : r = 0
  · rw [if_pos e0]; omega
  · rw [if_neg e0]
    by_cases e1 : r = 1
    · rw [if_pos e1]; omega
    · rw [if_neg e1]
      by_cases e2 : r = 2
      · rw [if_pos e2]
        by_cases ek : k = 0
        · rw [if_pos ek]; decide
        · rw [if_neg ek]; omega
      · rw [if_neg e2]
        by_cases e3 : r = 3
        · rw [if_pos e3]; omega
        · rw [if_neg e3]; omega
theorem ss_m63 {a b : Nat} (ha : a < 2 ^ 31) (hb : b < 2 ^ 31) : a * b < 2 ^ 63 := by
  have := Nat.mul_le_mul (Nat.le_of_lt ha) (Nat.le_of_lt hb)
  omega
/-! the greatest open quotient, one list on -/
theorem ss_pick_z {r i : Nat} {v g : Nat → Nat} (h : v i ≤ 0) : ss_pick r v g (i + 1) = ss_pick r v g i := by
  rw [ss_pick, if_neg (by omega)]
theorem ss_pick_n {r i : Nat} {v g : Nat → Nat} (h : 0 < v i) (hp : ss_pick r v g i = none) : ss_pick r v g (i + 1) = some i := by
  rw [ss_pick, if_pos h, hp]
theorem ss_pick_1 {r i b : Nat} {v g : Nat → Nat} (h : 0 < v i) (hp : ss_pick r v g i = some b) (hg : ss_gr r (v i) (g i) (v b) (g b) = true) : ss_pick r v g (i + 1) = some i := by
  rw [ss_pick, if_pos h, hp]
  show (if ss_gr r (v i) (g i) (v b) (g b) = true then some i else some b) = some i
  rw [if_pos hg]
theorem ss_pick_2 {r i b : Nat} {v g : Nat → Nat} (h : 0 < v i) (hp : ss_pick r v g i = some b) (hg : ss_gr r (v i) (g i) (v b) (g b) = false) : ss_pick r v g (i + 1) = some b := by
  rw [ss_pick, if_pos h, hp]
  show (if ss_gr r (v i) (g i) (v b) (g b) = true then some i else some b) = some b
  rw [if_neg (by rw [hg]; decide)]
/-! the scan of the rests, one list on -/
theorem ss_sc_z {P : Nat → Bool} {r : Nat → Nat} {i : Nat} (h : P i = false) : ss_sc P r (i + 1) = ss_sc P r i := by
  rw [ss_sc, if_neg (by rw [h]; decide)]
theorem ss_sc_n {P : Nat → Bool} {r : Nat → Nat} {i : Nat} (h : P i = true) (hp : ss_sc P r i = none) : ss_sc P r (i + 1) = some i := by
  rw [ss_sc, if_pos h, hp]
theorem ss_sc_1 {P : Nat → Bool} {r : Nat → Nat} {i b : Nat} (h : P i = true) (hp : ss_sc P r i = some b) (hr : r b < r i) : ss_sc P r (i + 1) = some i := by
  rw [ss_sc, if_pos h, hp]
  show (if r b < r i then some i else some b) = some i
  rw [if_pos hr]
theorem ss_sc_2 {P : Nat → Bool} {r : Nat → Nat} {i b : Nat} (h : P i = true) (hp : ss_sc P r i = some b) (hr : r i ≤ r b) : ss_sc P r (i + 1) = some b := by
  rw [ss_sc, if_pos h, hp]
  show (if r b < r i then some i else some b) = some b
  rw [if_neg (by omega)]
/-! codes of the scans -/
def ss_cd (z : Int32) : Option Nat → Int32
  | none => z
  | some b => nI b
def ss_tn (r : Nat) (v : Nat → Nat) : Option Nat → Int64
  | none => lN 0
  | some b => lN (ss_tp r (v b))
def ss_bn (r : Nat) (g : Nat → Nat) : Option Nat → Int64
  | none => lN 1
  | some b => lN (ss_dv r (g b))
theorem ss_S_q {r c n : Nat} {v : Nat → Nat} (h : r < 5) : ss_S r c v n = ss_q r c v n := by
  unfold ss_S; rw [if_pos h]
theorem ss_S_z {r c n : Nat} {v : Nat → Nat} (h : ss_sum v c = 0 ∨ n = 0) (i : Nat) : ss_S r c v n i = 0 := by
  unfold ss_S
  by_cases h5 : r < 5
  · rw [if_pos h5]
    cases h with
    | inl h => exact ss_q_0 (ss_sum_0 h) n i
    | inr h => rw [h]; rfl
  · rw [if_neg h5, if_pos h]
theorem ss_S_R {r c n : Nat} {v : Nat → Nat} (h5 : 5 ≤ r) (h0 : 0 < ss_sum v c) (hn : 0 < n) : ss_S r c v n = ss_R r c v n := by
  unfold ss_S
  rw [if_neg (by omega), if_neg (by omega)]
theorem ss_S_congr {r c n : Nat} {v v' : Nat → Nat} (h5 : r < 5) (h : ∀ j, j < c → v j = v' j) : ss_S r c v n = ss_S r c v' n := by
  rw [ss_S_q h5, ss_S_q h5]; exact ss_q_congr h n
end
section
theorem sx_sum_polled {post : Int32 → Prop} {c : Nat} {sC : Int32} {pA tA sA oA rA dA : Nat → Int32} {v : Nat → Nat} (hc : c ≤ 6) (h : ss_sh c pA v) (hp : post (nI (ss_sum v c))) : wpX_sumOf__polled post (nI c, sC, pA, tA, sA, oA, rA, dA) :=
  ss_loop (fun n i => wX_sumOf__polled_4 post (nI c) sC pA tA sA oA rA dA n (nI (ss_sum v i)) (nI i)) c 0 (Nat.zero_le _)
    (fun n => br_t (nI_le (Nat.le_refl c) (by omega)) hp)
    (fun n i _ hi ih => br_f (nI_ge hi (by omega)) ⟨vp_in_nI (by omega) (by decide), nm_r (e' := nI (ss_sum v (i + 1))) (by rw [ss_sh_at h hc hi, nI_add]; rfl) (nm_r (nI_1 i) ih)⟩)
theorem sx_sum_shares {post : Int32 → Prop} {c : Nat} {sC : Int32} {pA tA sA oA rA dA : Nat → Int32} {v : Nat → Nat} (hc : c ≤ 6) (h : ss_sh c sA v) (hp : post (nI (ss_sum v c))) : wpX_sumOf__shares post (nI c, sC, pA, tA, sA, oA, rA, dA) :=
  ss_loop (fun n i => wX_sumOf__shares_4 post (nI c) sC pA tA sA oA rA dA n (nI (ss_sum v i)) (nI i)) c 0 (Nat.zero_le _)
    (fun n => br_t (nI_le (Nat.le_refl c) (by omega)) hp)
    (fun n i _ hi ih => br_f (nI_ge hi (by omega)) ⟨vp_in_nI (by omega) (by decide), nm_r (e' := nI (ss_sum v (i + 1))) (by rw [ss_sh_at h hc hi, nI_add]; rfl) (nm_r (nI_1 i) ih)⟩)
theorem sx_sum_otherShares {post : Int32 → Prop} {c : Nat} {sC : Int32} {pA tA sA oA rA dA : Nat → Int32} {v : Nat → Nat} (hc : c ≤ 6) (h : ss_sh c oA v) (hp : post (nI (ss_sum v c))) : wpX_sumOf__otherShares post (nI c, sC, pA, tA, sA, oA, rA, dA) :=
  ss_loop (fun n i => wX_sumOf__otherShares_4 post (nI c) sC pA tA sA oA rA dA n (nI (ss_sum v i)) (nI i)) c 0 (Nat.zero_le _)
    (fun n => br_t (nI_le (Nat.le_refl c) (by omega)) hp)
    (fun n i _ hi ih => br_f (nI_ge hi (by omega)) ⟨vp_in_nI (by omega) (by decide), nm_r (e' := nI (ss_sum v (i + 1))) (by rw [ss_sh_at h hc hi, nI_add]; rfl) (nm_r (nI_1 i) ih)⟩)
theorem sx_cnt_polled {post : Int32 → Prop} {c : Nat} {sC : Int32} {pA tA sA oA rA dA : Nat → Int32} {v : Nat → Nat} (hc : c ≤ 6) (h : ss_sh c pA v) (hv : ∀ i, i < c → v i ≤ 2999) (hp : post (nI (ss_cnt (ss_A v) c))) : wpX_countWithVotes__polled post (nI c, sC, pA, tA, sA, oA, rA, dA) :=
  pk_loop (σ := Int32) (fun n i x => wX_countWithVotes__polled_4 post (nI c) sC pA tA sA oA rA dA n x (nI i)) (fun i x => x = nI (ss_cnt (ss_A v) i)) c 0 (nI 0) (Nat.zero_le _) rfl
    (fun n x hx => br_t (nI_le (Nat.le_refl c) (by omega)) (by rw [hx]; exact hp))
    (fun n i x hi hx k => by
      have hvi := hv i hi
      refine br_f (nI_ge hi (by omega)) ⟨vp_in_nI (by omega) (by decide), pk_le (v i) 0 (fun hz => nm_r (nI_1 i) (k x ?_)) (fun hz => nm_e (nm_r (nI_1 i) (k (x + 1) ?_))) (ss_sh_at h hc hi) rfl (by omega) (by decide)⟩
      · rw [hx, ss_cnt_f (decide_eq_false (by omega))]
      · rw [hx, nI_1, ss_cnt_t (decide_eq_true hz)])
theorem sx_isQ {post : Int32 → Prop} {c : Nat} {sC : Int32} {pA tA sA oA rA dA : Nat → Int32} {r : Nat} (hr : r ≤ 6) (h1 : r ≤ 4 → post 1) (h0 : 4 < r → post 0) : wpX_isQuotientRule post (nI c, sC, pA, tA, sA, oA, rA, dA) (nI r) :=
  br_f (nI_pos (by omega)) (pk_lt 4 r (fun h => h0 h) (fun h => h1 h) rfl rfl (by decide) (by omega))
theorem sx_dividend {post : Int64 → Prop} {c : Nat} {sC : Int32} {pA tA sA oA rA dA : Nat → Int32} {r x : Nat} (hr : r ≤ 4) (hp : post (lN (ss_tp r x))) : wpX_dividend post (nI c, sC, pA, tA, sA, oA, rA, dA) (nI r) (lN x) := by
  unfold ss_tp at hp
  refine pk_eq r 3 (fun e => ?_) (fun e => ?_) rfl rfl (by omega) (by decide)
  · rw [if_pos e] at hp; rw [lN_mul]; exact hp
  · rw [if_neg e] at hp; exact hp
theorem sx_divisor {post : Int64 → Prop} {c : Nat} {sC : Int32} {pA tA sA oA rA dA : Nat → Int32} {r x : Nat} (hr : r ≤ 4) (hx : x ≤ 31) (hp : post (lN (ss_dv r x))) : wpX_divisor post (nI c, sC, pA, tA, sA, oA, rA, dA) (nI r) (lN x) := by
  unfold ss_dv at hp
  refine br_f (nI_pos (by omega)) (pk_lt 3 r (fun e => ?_) (fun e => pk_eq r 0 (fun e0 => ?_) (fun e0 => pk_eq r 1 (fun e1 => ?_) (fun e1 => pk_eq r 2 (fun e2 => ?_) (fun e2 => pk_eq r 3 (fun e3 => ?_) (fun e3 => ?_) rfl rfl (by omega) (by decide)) rfl rfl (by omega) (by decide)) rfl rfl (by omega) (by decide)) rfl rfl (by omega) (by decide)) rfl rfl (by decide) (by omega))
  · rw [if_neg (by omega), if_neg (by omega), if_neg (by omega), if_neg (by omega)] at hp; exact hp
  · rw [if_pos e0] at hp; rw [lN_1]; exact hp
  · rw [if_neg e0, if_pos e1] at hp
    have e5 : (2 : Int64) * lN x + 1 = lN (2 * x + 1) := by
      show lN 2 * lN x + 1 = _
      rw [lN_mul, lN_1]
    rw [e5]; exact hp
  · rw [if_neg e0, if_neg e1, if_pos e2] at hp
    refine ek_if (d := x = 0) (lN_eq (b := 0) (by omega) (by decide)) (fun ex => ?_) (fun ex => ?_)
    · rw [if_pos ex] at hp; exact hp
    · rw [if_neg ex] at hp
      have e5 : (10 : Int64) * lN x + 5 = lN (10 * x + 5) := by
        show lN 10 * lN x + lN 5 = _
        rw [lN_mul, lN_add]
      rw [e5]; exact hp
  · rw [if_neg e0, if_neg e1, if_neg e2, if_pos e3] at hp
    rw [lN_1, lN_mul]; exact hp
  · exact trivial
theorem sx_g26 {post : Int32 → Prop} {c : Nat} {sC : Int32} {pA tA sA oA rA dA : Nat → Int32} {t b t' b' : Nat} (ht : t < 2 ^ 31) (hb : b < 2 ^ 31) (ht' : t' < 2 ^ 31) (hb' : b' < 2 ^ 31) (hn : ¬ (b = 0 ∧ b' = 0)) (h1 : ss_gt t b t' b' = true → post 1) (h0 : ss_gt t b t' b' = false → post 0) : wX_isGreater_26 post (lN t) (lN b) (lN t') (lN b') (nI c) sC pA tA sA oA rA dA := by
  have e : lN t * lN b' ≤ lN t' * lN b ↔ t * b' ≤ t' * b := by
    rw [lN_mul, lN_mul]; exact pk_lLE (ss_m63 ht hb') (ss_m63 ht' hb)
  unfold ss_gt at h1 h0
  rw [if_neg hn] at h1 h0
  exact ek_if e (fun h => h0 (decide_eq_false (by omega))) (fun h => h1 (decide_eq_true (by omega)))
theorem sx_isGreater {post : Int32 → Prop} {c : Nat} {sC : Int32} {pA tA sA oA rA dA : Nat → Int32} {t b t' b' : Nat} (ht : t < 2 ^ 31) (hb : b < 2 ^ 31) (ht' : t' < 2 ^ 31) (hb' : b' < 2 ^ 31) (h1 : ss_gt t b t' b' = true → post 1) (h0 : ss_gt t b t' b' = false → post 0) : wpX_isGreater post (nI c, sC, pA, tA, sA, oA, rA, dA) (lN t) (lN b) (lN t') (lN b') := by
  refine ek_if (d := b = 0) (lN_eq (b := 0) hb (by decide)) (fun e => ek_if (d := b' = 0) (lN_eq (b := 0) hb' (by decide)) (fun e' => ?_) (fun e' => ?_)) (fun e => ?_)
  · unfold ss_gt at h1 h0
    rw [if_pos ⟨e, e'⟩] at h1 h0
    exact ek_if (lN_le ht ht') (fun h => h0 (decide_eq_false (by omega))) (fun h => h1 (decide_eq_true (by omega)))
  · exact sx_g26 ht hb ht' hb' (fun z => e' z.2) h1 h0
  · exact sx_g26 ht hb ht' hb' (fun z => e z.1) h1 h0
theorem sx_gq_polled_shares {post : Int32 → Prop} {c : Nat} {sC : Int32} {pA tA sA oA rA dA : Nat → Int32} {v g : Nat → Nat} {r : Nat} (hc : c ≤ 6) (hr : r ≤ 4) (h : ss_sh c pA v) (hv : ∀ i, i < c → v i ≤ 2999) (hs : ss_sh c sA g) (hg : ∀ i, i < c → g i ≤ 31) (hp : post (ss_cd (-4) (ss_pick r v g c))) : wpX_greatestQuotient__polled_shares post (nI c, sC, pA, tA, sA, oA, rA, dA) (nI r) := by
  refine pk_loop (σ := Option Nat) (fun n i o => wX_greatestQuotient__polled_shares_13 post (nI r) (nI c) sC pA tA sA oA rA dA n (ss_cd (-4) o) (ss_tn r v o) (ss_bn r g o) (nI i)) (fun i o => o = ss_pick r v g i) c 0 none (Nat.zero_le _) rfl
    (fun n o ho => br_t (nI_le (Nat.le_refl c) (by omega)) (by rw [ho]; exact hp))
    (fun n i o hi ho k => ?_)
  have hvi := hv i hi
  have e1 := ss_sh_at h hc hi
  have e2 := ss_sh_at hs hc hi
  have ein : vp_in (nI i) 6 := vp_in_nI (by omega) (by decide)
  refine br_f (nI_ge hi (by omega)) ⟨ein, pk_le (v i) 0 (fun hz => nm_r (nI_1 i) (k o (by rw [ho, ss_pick_z hz]))) (fun hz => ⟨ein, ?_⟩) e1 rfl (by omega) (by decide)⟩
  have hgi := hg i hi
  rw [e1, e2, nI_l (by omega), nI_l (by omega)]
  refine sx_dividend hr ⟨ein, sx_divisor hr (hg i hi) ?_⟩
  cases o with
  | none =>
    refine sx_isGreater (t' := 0) (b' := 1) (ss_tp_lt hvi) (ss_dv_lt (hg i hi)) (by decide) (by decide) (fun h1 => br_f (by decide) (nm_r (nI_1 i) (k (some i) (ss_pick_n hz ho.symm).symm))) (fun h0 => ?_)
    exfalso
    unfold ss_gt at h0
    rw [if_neg (fun z => absurd z.2 (by decide)), decide_eq_false_iff_not, Nat.zero_mul, Nat.mul_one] at h0
    apply h0
    unfold ss_tp
    by_cases e3 : r = 3
    · rw [if_pos e3]; exact Nat.mul_pos hz hz
    · rw [if_neg e3]; exact hz
  | some d =>
    have hd := ss_pick_lt i d ho.symm
    refine sx_isGreater (t' := ss_tp r (v d)) (b' := ss_dv r (g d)) (ss_tp_lt hvi) (ss_dv_lt (hg i hi)) (ss_tp_lt (hv d (by omega))) (ss_dv_lt (hg d (by omega))) (fun h1 => br_f (by decide) (nm_r (nI_1 i) (k (some i) ?_))) (fun h0 => br_t rfl (nm_r (nI_1 i) (k (some d) ?_)))
    · rw [← ss_gr_gt] at h1
      exact (ss_pick_1 hz ho.symm h1).symm
    · rw [← ss_gr_gt] at h0
      exact (ss_pick_2 hz ho.symm h0).symm
theorem sx_bq_polled_shares {post : SX → Prop} {c : Nat} {sC : Int32} {pA tA sA oA rA dA : Nat → Int32} {v : Nat → Nat} {r N : Nat} (hc : c ≤ 6) (hr : r ≤ 4) (hN : N ≤ 31) (h : ss_sh c pA v) (hv : ∀ i, i < c → v i ≤ 2999) (hs : ss_sh c sA (fun _ => 0)) (hp : ∀ sh, ss_sh c sh (ss_q r c v N) → post (nI c, sC, pA, tA, sh, oA, rA, dA)) : wpX_shareByQuotients__polled_shares post (nI c, sC, pA, tA, sA, oA, rA, dA) (nI r) (nI N) := by
  refine pk_loop (σ := Nat → Int32) (fun n i sh => wX_shareByQuotients__polled_shares_3 post (nI r) (nI N) (nI c) sC n (nI i) pA tA sh oA rA dA) (fun i sh => ss_sh c sh (ss_q r c v i)) N 0 sA (Nat.zero_le _) hs
    (fun n sh hsh => br_t (nI_le (Nat.le_refl N) (by omega)) (hp sh hsh))
    (fun n i sh hi hsh k => br_f (nI_ge hi (by omega)) (sx_gq_polled_shares hc hr h hv hsh (fun j _ => Nat.le_trans (ss_q_le i j) (by omega)) ?_))
  cases hq : ss_pick r v (ss_q r c v i) c with
  | none => exact br_t (by decide) (nm_r (nI_1 i) (k sh (by rw [ss_q_none hq]; exact hsh)))
  | some d =>
    have hd := (ss_pick_lt c d hq).1
    have ed : vp_in (nI d) 6 := vp_in_nI (by omega) (by decide)
    exact br_f (nI_pos (by omega)) ⟨ed, ed, nm_r (e' := upd sh d (nI (ss_q r c v i d + 1))) (by
      show upd sh (nI d).toNatClampNeg (sh (nI d).toNatClampNeg + 1) = _
      rw [ss_sh_at hsh hc hd, nI_clamp (by omega), nI_1]) (nm_r (nI_1 i) (k _ (ss_sh_up hsh (fun j _ => by
      rw [ss_q_some hq]
      show (if j = d then ss_q r c v i j + 1 else ss_q r c v i j) = _
      by_cases e : j = d
      · rw [if_pos e, if_pos e, e]
      · rw [if_neg e, if_neg e]))))⟩
theorem sx_gq_trial_shares {post : Int32 → Prop} {c : Nat} {sC : Int32} {pA tA sA oA rA dA : Nat → Int32} {v g : Nat → Nat} {r : Nat} (hc : c ≤ 6) (hr : r ≤ 4) (h : ss_sh c tA v) (hv : ∀ i, i < c → v i ≤ 2999) (hs : ss_sh c sA g) (hg : ∀ i, i < c → g i ≤ 31) (hp : post (ss_cd (-4) (ss_pick r v g c))) : wpX_greatestQuotient__trial_shares post (nI c, sC, pA, tA, sA, oA, rA, dA) (nI r) := by
  refine pk_loop (σ := Option Nat) (fun n i o => wX_greatestQuotient__trial_shares_13 post (nI r) (nI c) sC pA tA sA oA rA dA n (ss_cd (-4) o) (ss_tn r v o) (ss_bn r g o) (nI i)) (fun i o => o = ss_pick r v g i) c 0 none (Nat.zero_le _) rfl
    (fun n o ho => br_t (nI_le (Nat.le_refl c) (by omega)) (by rw [ho]; exact hp))
    (fun n i o hi ho k => ?_)
  have hvi := hv i hi
  have e1 := ss_sh_at h hc hi
  have e2 := ss_sh_at hs hc hi
  have ein : vp_in (nI i) 6 := vp_in_nI (by omega) (by decide)
  refine br_f (nI_ge hi (by omega)) ⟨ein, pk_le (v i) 0 (fun hz => nm_r (nI_1 i) (k o (by rw [ho, ss_pick_z hz]))) (fun hz => ⟨ein, ?_⟩) e1 rfl (by omega) (by decide)⟩
  have hgi := hg i hi
  rw [e1, e2, nI_l (by omega), nI_l (by omega)]
  refine sx_dividend hr ⟨ein, sx_divisor hr (hg i hi) ?_⟩
  cases o with
  | none =>
    refine sx_isGreater (t' := 0) (b' := 1) (ss_tp_lt hvi) (ss_dv_lt (hg i hi)) (by decide) (by decide) (fun h1 => br_f (by decide) (nm_r (nI_1 i) (k (some i) (ss_pick_n hz ho.symm).symm))) (fun h0 => ?_)
    exfalso
    unfold ss_gt at h0
    rw [if_neg (fun z => absurd z.2 (by decide)), decide_eq_false_iff_not, Nat.zero_mul, Nat.mul_one] at h0
    apply h0
    unfold ss_tp
    by_cases e3 : r = 3
    · rw [if_pos e3]; exact Nat.mul_pos hz hz
    · rw [if_neg e3]; exact hz
  | some d =>
    have hd := ss_pick_lt i d ho.symm
    refine sx_isGreater (t' := ss_tp r (v d)) (b' := ss_dv r (g d)) (ss_tp_lt hvi) (ss_dv_lt (hg i hi)) (ss_tp_lt (hv d (by omega))) (ss_dv_lt (hg d (by omega))) (fun h1 => br_f (by decide) (nm_r (nI_1 i) (k (some i) ?_))) (fun h0 => br_t rfl (nm_r (nI_1 i) (k (some d) ?_)))
    · rw [← ss_gr_gt] at h1
      exact (ss_pick_1 hz ho.symm h1).symm
    · rw [← ss_gr_gt] at h0
      exact (ss_pick_2 hz ho.symm h0).symm
theorem sx_bq_trial_shares {post : SX → Prop} {c : Nat} {sC : Int32} {pA tA sA oA rA dA : Nat → Int32} {v : Nat → Nat} {r N : Nat} (hc : c ≤ 6) (hr : r ≤ 4) (hN : N ≤ 31) (h : ss_sh c tA v) (hv : ∀ i, i < c → v i ≤ 2999) (hs : ss_sh c sA (fun _ => 0)) (hp : ∀ sh, ss_sh c sh (ss_q r c v N) → post (nI c, sC, pA, tA, sh, oA, rA, dA)) : wpX_shareByQuotients__trial_shares post (nI c, sC, pA, tA, sA, oA, rA, dA) (nI r) (nI N) := by
  refine pk_loop (σ := Nat → Int32) (fun n i sh => wX_shareByQuotients__trial_shares_3 post (nI r) (nI N) (nI c) sC n (nI i) pA tA sh oA rA dA) (fun i sh => ss_sh c sh (ss_q r c v i)) N 0 sA (Nat.zero_le _) hs
    (fun n sh hsh => br_t (nI_le (Nat.le_refl N) (by omega)) (hp sh hsh))
    (fun n i sh hi hsh k => br_f (nI_ge hi (by omega)) (sx_gq_trial_shares hc hr h hv hsh (fun j _ => Nat.le_trans (ss_q_le i j) (by omega)) ?_))
  cases hq : ss_pick r v (ss_q r c v i) c with
  | none => exact br_t (by decide) (nm_r (nI_1 i) (k sh (by rw [ss_q_none hq]; exact hsh)))
  | some d =>
    have hd := (ss_pick_lt c d hq).1
    have ed : vp_in (nI d) 6 := vp_in_nI (by omega) (by decide)
    exact br_f (nI_pos (by omega)) ⟨ed, ed, nm_r (e' := upd sh d (nI (ss_q r c v i d + 1))) (by
      show upd sh (nI d).toNatClampNeg (sh (nI d).toNatClampNeg + 1) = _
      rw [ss_sh_at hsh hc hd, nI_clamp (by omega), nI_1]) (nm_r (nI_1 i) (k _ (ss_sh_up hsh (fun j _ => by
      rw [ss_q_some hq]
      show (if j = d then ss_q r c v i j + 1 else ss_q r c v i j) = _
      by_cases e : j = d
      · rw [if_pos e, if_pos e, e]
      · rw [if_neg e, if_neg e]))))⟩
theorem sx_gq_polled_otherShares {post : Int32 → Prop} {c : Nat} {sC : Int32} {pA tA sA oA rA dA : Nat → Int32} {v g : Nat → Nat} {r : Nat} (hc : c ≤ 6) (hr : r ≤ 4) (h : ss_sh c pA v) (hv : ∀ i, i < c → v i ≤ 2999) (hs : ss_sh c oA g) (hg : ∀ i, i < c → g i ≤ 31) (hp : post (ss_cd (-4) (ss_pick r v g c))) : wpX_greatestQuotient__polled_otherShares post (nI c, sC, pA, tA, sA, oA, rA, dA) (nI r) := by
  refine pk_loop (σ := Option Nat) (fun n i o => wX_greatestQuotient__polled_otherShares_13 post (nI r) (nI c) sC pA tA sA oA rA dA n (ss_cd (-4) o) (ss_tn r v o) (ss_bn r g o) (nI i)) (fun i o => o = ss_pick r v g i) c 0 none (Nat.zero_le _) rfl
    (fun n o ho => br_t (nI_le (Nat.le_refl c) (by omega)) (by rw [ho]; exact hp))
    (fun n i o hi ho k => ?_)
  have hvi := hv i hi
  have e1 := ss_sh_at h hc hi
  have e2 := ss_sh_at hs hc hi
  have ein : vp_in (nI i) 6 := vp_in_nI (by omega) (by decide)
  refine br_f (nI_ge hi (by omega)) ⟨ein, pk_le (v i) 0 (fun hz => nm_r (nI_1 i) (k o (by rw [ho, ss_pick_z hz]))) (fun hz => ⟨ein, ?_⟩) e1 rfl (by omega) (by decide)⟩
  have hgi := hg i hi
  rw [e1, e2, nI_l (by omega), nI_l (by omega)]
  refine sx_dividend hr ⟨ein, sx_divisor hr (hg i hi) ?_⟩
  cases o with
  | none =>
    refine sx_isGreater (t' := 0) (b' := 1) (ss_tp_lt hvi) (ss_dv_lt (hg i hi)) (by decide) (by decide) (fun h1 => br_f (by decide) (nm_r (nI_1 i) (k (some i) (ss_pick_n hz ho.symm).symm))) (fun h0 => ?_)
    exfalso
    unfold ss_gt at h0
    rw [if_neg (fun z => absurd z.2 (by decide)), decide_eq_false_iff_not, Nat.zero_mul, Nat.mul_one] at h0
    apply h0
    unfold ss_tp
    by_cases e3 : r = 3
    · rw [if_pos e3]; exact Nat.mul_pos hz hz
    · rw [if_neg e3]; exact hz
  | some d =>
    have hd := ss_pick_lt i d ho.symm
    refine sx_isGreater (t' := ss_tp r (v d)) (b' := ss_dv r (g d)) (ss_tp_lt hvi) (ss_dv_lt (hg i hi)) (ss_tp_lt (hv d (by omega))) (ss_dv_lt (hg d (by omega))) (fun h1 => br_f (by decide) (nm_r (nI_1 i) (k (some i) ?_))) (fun h0 => br_t rfl (nm_r (nI_1 i) (k (some d) ?_)))
    · rw [← ss_gr_gt] at h1
      exact (ss_pick_1 hz ho.symm h1).symm
    · rw [← ss_gr_gt] at h0
      exact (ss_pick_2 hz ho.symm h0).symm
theorem sx_bq_polled_otherShares {post : SX → Prop} {c : Nat} {sC : Int32} {pA tA sA oA rA dA : Nat → Int32} {v : Nat → Nat} {r N : Nat} (hc : c ≤ 6) (hr : r ≤ 4) (hN : N ≤ 31) (h : ss_sh c pA v) (hv : ∀ i, i < c → v i ≤ 2999) (hs : ss_sh c oA (fun _ => 0)) (hp : ∀ sh, ss_sh c sh (ss_q r c v N) → post (nI c, sC, pA, tA, sA, sh, rA, dA)) : wpX_shareByQuotients__polled_otherShares post (nI c, sC, pA, tA, sA, oA, rA, dA) (nI r) (nI N) := by
  refine pk_loop (σ := Nat → Int32) (fun n i sh => wX_shareByQuotients__polled_otherShares_3 post (nI r) (nI N) (nI c) sC n (nI i) pA tA sA sh rA dA) (fun i sh => ss_sh c sh (ss_q r c v i)) N 0 oA (Nat.zero_le _) hs
    (fun n sh hsh => br_t (nI_le (Nat.le_refl N) (by omega)) (hp sh hsh))
    (fun n i sh hi hsh k => br_f (nI_ge hi (by omega)) (sx_gq_polled_otherShares hc hr h hv hsh (fun j _ => Nat.le_trans (ss_q_le i j) (by omega)) ?_))
  cases hq : ss_pick r v (ss_q r c v i) c with
  | none => exact br_t (by decide) (nm_r (nI_1 i) (k sh (by rw [ss_q_none hq]; exact hsh)))
  | some d =>
    have hd := (ss_pick_lt c d hq).1
    have ed : vp_in (nI d) 6 := vp_in_nI (by omega) (by decide)
    exact br_f (nI_pos (by omega)) ⟨ed, ed, nm_r (e' := upd sh d (nI (ss_q r c v i d + 1))) (by
      show upd sh (nI d).toNatClampNeg (sh (nI d).toNatClampNeg + 1) = _
      rw [ss_sh_at hsh hc hd, nI_clamp (by omega), nI_1]) (nm_r (nI_1 i) (k _ (ss_sh_up hsh (fun j _ => by
      rw [ss_q_some hq]
      show (if j = d then ss_q r c v i j + 1 else ss_q r c v i j) = _
      by_cases e : j = d
      · rw [if_pos e, if_pos e, e]
      · rw [if_neg e, if_neg e]))))⟩
end
section
/-! the place of a list by its rest -/
def ss_i01 (z : Bool) : Int32 := if z = true then 1 else 0
def ss_n01 (z : Bool) : Nat := if z = true then 1 else 0
theorem sx_ca57 {post : Int32 → Prop} {J : Int32 → Int32 → Prop} {x1 : Int32} {c : Nat} {sC : Int32} {pA tA sA oA rA dA : Nat → Int32} {v : Nat → Nat} {x j : Nat} (z : Bool) (hc : c ≤ 6) (h : ss_sh c pA v) (hj : j < c) (hv : v j ≤ 2999) (hJ : J (nI (x + ss_n01 (ss_A v j && z))) (nI (j + 1))) : wX_countAhead__polled_57 post J x1 (nI x) (nI j) (ss_i01 z) (nI c) sC pA tA sA oA rA dA := by
  refine ⟨vp_in_nI (by omega) (by decide), pk_le (v j) 0 (fun hz => nm_r (nI_1 j) ?_) (fun hz => ?_) (ss_sh_at h hc hj) rfl (by omega) (by decide)⟩
  · rw [show ss_A v j = false from decide_eq_false (by omega)] at hJ
    exact hJ
  · rw [show ss_A v j = true from decide_eq_true hz] at hJ
    cases z with
    | false => exact br_t rfl (nm_r (nI_1 j) hJ)
    | true => exact br_f (by decide) (nm_r (nI_1 x) (nm_r (nI_1 j) hJ))
theorem sx_ca {post : Int32 → Prop} {c : Nat} {sC : Int32} {pA tA sA oA rA dA : Nat → Int32} {v q : Nat → Nat} {i : Nat} (hc : c ≤ 6) (h : ss_sh c pA v) (hv : ∀ i, i < c → v i ≤ 2999) (hq : ss_sh c rA q) (hqb : ∀ i, i < c → q i < 2 ^ 30) (hi : i < c) (hp : post (nI (ss_pl (ss_A v) q c i))) : wpX_countAhead__polled post (nI c, sC, pA, tA, sA, oA, rA, dA) (nI i) := by
  refine ss_loop (fun n j => wX_countAhead__polled_5 post (nI i) (nI c) sC pA tA sA oA rA dA n (nI (ss_cnt (fun k => ss_A v k && ss_ah q k i) j)) (nI j)) c 0 (Nat.zero_le _)
    (fun n => br_t (nI_le (Nat.le_refl c) (by omega)) hp)
    (fun n j _ hj ih => ?_)
  have ei : vp_in (nI i) 6 := vp_in_nI (by omega) (by decide)
  have ej : vp_in (nI j) 6 := vp_in_nI (by omega) (by decide)
  have qi := hqb i hi
  have qj := hqb j hj
  have h57 : ∀ z, ss_ah q j i = z → wX_countAhead__polled_57 post (wX_countAhead__polled_5 post (nI i) (nI c) sC pA tA sA oA rA dA n) (nI i) (nI (ss_cnt (fun k => ss_A v k && ss_ah q k i) j)) (nI j) (ss_i01 z) (nI c) sC pA tA sA oA rA dA := fun z hz => sx_ca57 z hc h hj (hv j hj) (by rw [← hz]; exact ih)
  refine br_f (nI_ge hj (by omega)) ⟨ej, ei, pk_lt (q i) (q j) (fun h1 => h57 true (ss_ah_iff.mpr (Or.inl h1))) (fun h1 => ⟨ej, ei, pk_eq (q j) (q i) (fun h2 => pk_le i j (fun h3 => h57 false ?_) (fun h3 => h57 true (ss_ah_iff.mpr (Or.inr ⟨h2, h3⟩))) rfl rfl (by omega) (by omega)) (fun h2 => h57 false ?_) (ss_sh_at hq hc hj) (ss_sh_at hq hc hi) (by omega) (by omega)⟩) (ss_sh_at hq hc hi) (ss_sh_at hq hc hj) (by omega) (by omega)⟩
  · exact decide_eq_false (by omega)
  · exact decide_eq_false (by omega)
theorem sx_obr {post : SX → Prop} {c : Nat} {sC : Int32} {pA tA sA oA rA dA : Nat → Int32} {v q : Nat → Nat} (hc : c ≤ 6) (h : ss_sh c pA v) (hv : ∀ i, i < c → v i ≤ 2999) (hq : ss_sh c rA q) (hqb : ∀ i, i < c → q i < 2 ^ 30) (hp : ∀ od, (∀ i, i < c → 0 < v i → od (ss_pl (ss_A v) q c i) = nI i) → post (nI c, sC, pA, tA, sA, oA, rA, od)) : wpX_orderByRests__polled post (nI c, sC, pA, tA, sA, oA, rA, dA) := by
  refine pk_loop (σ := Nat → Int32) (fun n i od => wX_orderByRests__polled_2 post (nI c) sC n (nI i) pA tA sA oA rA od) (fun i od => ∀ j, j < i → 0 < v j → od (ss_pl (ss_A v) q c j) = nI j) c 0 dA (Nat.zero_le _) (fun j hj => absurd hj (Nat.not_lt_zero j))
    (fun n od hod => br_t (nI_le (Nat.le_refl c) (by omega)) (hp od hod))
    (fun n i od hi hod k => ?_)
  have hvi := hv i hi
  refine br_f (nI_ge hi (by omega)) ⟨vp_in_nI (by omega) (by decide), pk_le (v i) 0 (fun hz => nm_r (nI_1 i) (k od (fun j hj hvj => ?_))) (fun hz => sx_ca hc h hv hq hqb hi ?_) (ss_sh_at h hc hi) rfl (by omega) (by decide)⟩
  · by_cases e : j = i
    · subst e; omega
    · exact hod j (by omega) hvj
  · have h1 := ss_pl_m (A := ss_A v) (r := q) hi (decide_eq_true hz)
    have h2 := ss_cnt_le (ss_A v) c
    refine ⟨vp_in_nI (by omega) (by decide), nm_r (e' := upd od (ss_pl (ss_A v) q c i) (nI i)) (by rw [nI_clamp (by omega)]) (nm_r (nI_1 i) (k _ (fun j hj hvj => ?_)))⟩
    by_cases e : j = i
    · rw [e]; exact pk_us
    · rw [pk_un (fun z => e (ss_pl_inj (by omega) hi (decide_eq_true hvj) (decide_eq_true hz) z))]
      exact hod j (by omega) hvj
theorem sx_gio_shares {post : SX → Prop} {c : Nat} {sC : Int32} {pA tA sA oA rA dA : Nat → Int32} {v q base : Nat → Nat} {L : Nat} (hc : c ≤ 6) (hL : L < 2 ^ 30) (hm : 0 < ss_cnt (ss_A v) c) (hod : ∀ i, i < c → 0 < v i → dA (ss_pl (ss_A v) q c i) = nI i) (hs : ss_sh c sA base) (hp : ∀ sh, ss_sh c sh (ss_rv (ss_A v) q c (ss_cnt (ss_A v) c) base L) → post (nI c, sC, pA, tA, sh, oA, rA, dA)) : wpX_giveInOrder__shares post (nI c, sC, pA, tA, sA, oA, rA, dA) (nI L) (nI (ss_cnt (ss_A v) c)) := by
  have hmc := ss_cnt_le (ss_A v) c
  refine br_t (nI_lt (a := 0) hm (by omega)) (pk_loop (σ := Nat → Int32) (fun n s sh => wX_giveInOrder__shares_8 post (nI L) (nI (ss_cnt (ss_A v) c)) (nI c) sC n (nI s) pA tA sh oA rA dA) (fun s sh => ss_sh c sh (ss_rv (ss_A v) q c (ss_cnt (ss_A v) c) base s)) L 0 sA (Nat.zero_le _) hs
    (fun n sh hsh => br_t (nI_le (Nat.le_refl L) (by omega)) (hp sh hsh))
    (fun n s sh hs hsh k => ?_))
  have hlt := Nat.mod_lt s hm
  obtain ⟨b, _, hb, Ab, hpl⟩ := ss_scan (A := ss_A v) (r := q) hlt
  have vb : 0 < v b := of_decide_eq_true Ab
  have er : nI s - nI s / nI (ss_cnt (ss_A v) c) * nI (ss_cnt (ss_A v) c) = nI (s % ss_cnt (ss_A v) c) := pk_rem (by omega) hm (by omega)
  have eo : dA (nI s - nI s / nI (ss_cnt (ss_A v) c) * nI (ss_cnt (ss_A v) c)).toNatClampNeg = nI b := by
    rw [er, nI_clamp (by omega), ← hpl]; exact hod b hb vb
  have eb : vp_in (nI b) 6 := vp_in_nI (by omega) (by decide)
  refine br_f (nI_ge hs (by omega)) ⟨nI_ne0 hm (by omega), by rw [er]; exact vp_in_nI (by omega) (by decide), by rw [eo]; exact eb, by rw [eo]; exact eb, nm_r (e' := upd sh b (nI (ss_rv (ss_A v) q c (ss_cnt (ss_A v) c) base s b + 1))) (by rw [eo, ss_sh_at hsh hc hb, nI_clamp (by omega), nI_1]) (nm_r (nI_1 s) (k _ (ss_sh_up hsh (fun i hi => ?_))))⟩
  rw [ss_rv_step hb Ab hpl hi]
  by_cases e : i = b
  · rw [if_pos e, if_pos e, e]
  · rw [if_neg e, if_neg e]
theorem sx_q52_shares {post : SX → Prop} {c : Nat} {sC : Int32} {pA tA sA oA rA dA : Nat → Int32} {v : Nat → Nat} {r N : Nat} (hc : c ≤ 6) (hN : N ≤ 31) (hV : 0 < ss_sum v c) (h : ss_sh c pA v) (hv : ∀ i, i < c → v i ≤ 2999) (hp : ∀ sh rs od, ss_sh c sh (ss_R r c v N) → post (nI c, sC, pA, tA, sh, oA, rs, od)) : ∃ n, wX_shareByQuota__polled_shares_52 post (nI N) (nI (ss_bt r N)) (nI (ss_tq r (ss_sum v c) N)) (nI c) sC n 0 pA tA sA oA rA dA := by
  have hq := ss_tq_pos (rule := r) (n := N) hV
  have hbt : ss_bt r N ≤ 31 := by
    unfold ss_bt
    by_cases e : r = 5
    · rw [if_pos e]; exact hN
    · rw [if_neg e]; omega
  have hsv := ss_sum_le (f := v) (c := c) (B := 2999) hv
  have hV2 : ss_sum v c ≤ 17994 := Nat.le_trans hsv (Nat.mul_le_mul hc (Nat.le_refl 2999))
  have hqb : ss_tq r (ss_sum v c) N < 2 ^ 30 := by
    unfold ss_tq
    by_cases e : r = 5
    · rw [if_pos e]; omega
    · rw [if_neg e]
      have := Nat.div_le_self (ss_sum v c) (N + 1)
      omega
  have hreb : ∀ i, i < c → ss_re r c v N i < 2 ^ 30 := fun i hi => by
    have : ss_re r c v N i < ss_tq r (ss_sum v c) N := Nat.mod_lt _ hq
    omega
  have hba := ss_ba_sum (rule := r) (c := c) (n := N) (v := v) hV
  have hm : 0 < ss_cnt (ss_A v) c := by
    obtain ⟨i, hi, hvi⟩ := ss_sum_pos c hV
    exact ss_cnt_pos hi (decide_eq_true hvi)
  refine pk_loop (σ := (Nat → Int32) × (Nat → Int32)) (fun n i s => wX_shareByQuota__polled_shares_52 post (nI N) (nI (ss_bt r N)) (nI (ss_tq r (ss_sum v c) N)) (nI c) sC n (nI i) pA tA s.1 oA s.2 dA) (fun i s => ss_sh i s.1 (ss_ba r c v N) ∧ ss_sh i s.2 (ss_re r c v N)) c 0 (sA, rA) (Nat.zero_le _) ⟨ss_sh_0, ss_sh_0⟩
    (fun n s hs => br_t (nI_le (Nat.le_refl c) (by omega)) (sx_obr hc h hv hs.2 hreb (fun od hod => sx_sum_shares hc hs.1 (nm_r (pk_sub hba) (sx_cnt_polled hc h hv (sx_gio_shares hc (by omega) hm hod hs.1 (fun sh hsh => hp sh s.2 od hsh)))))))
    (fun n i s hi hs k => ?_)
  have ei : vp_in (nI i) 6 := vp_in_nI (by omega) (by decide)
  have hx : v i * ss_bt r N ≤ 2999 * 31 := Nat.mul_le_mul (hv i hi) hbt
  have hne : ¬ nI (ss_tq r (ss_sum v c) N) = 0 := nI_ne0 hq (by omega)
  exact br_f (nI_ge hi (by omega)) ⟨ei, hne, ei, nm_r (e' := upd s.1 i (nI (ss_ba r c v N i))) (by
      rw [ss_sh_at h hc hi, nI_clamp (by omega), pk_mul, pk_div (by omega) hq (by omega)]; rfl) ⟨ei, hne, ei, nm_r (e' := upd s.2 i (nI (ss_re r c v N i))) (by
      rw [ss_sh_at h hc hi, nI_clamp (by omega), pk_mul, pk_rem (by omega) hq (by omega)]; rfl) (nm_r (nI_1 i) (k (upd s.1 i (nI (ss_ba r c v N i)), upd s.2 i (nI (ss_re r c v N i))) ⟨ss_sh_s hs.1, ss_sh_s hs.2⟩))⟩⟩
theorem sx_quota_shares {post : SX → Prop} {c : Nat} {sC : Int32} {pA tA sA oA rA dA : Nat → Int32} {v : Nat → Nat} {r N : Nat} (hc : c ≤ 6) (hr : r ≤ 6) (h5 : 5 ≤ r) (hN : N ≤ 31) (h : ss_sh c pA v) (hv : ∀ i, i < c → v i ≤ 2999) (hs : ss_sh c sA (fun _ => 0)) (hp : ∀ sh rs od, ss_sh c sh (ss_S r c v N) → post (nI c, sC, pA, tA, sh, oA, rs, od)) : wpX_shareByQuota__polled_shares post (nI c, sC, pA, tA, sA, oA, rA, dA) (nI r) (nI N) := by
  have hsv := ss_sum_le (f := v) (c := c) (B := 2999) hv
  have hV2 : ss_sum v c ≤ 17994 := Nat.le_trans hsv (Nat.mul_le_mul hc (Nat.le_refl 2999))
  refine sx_sum_polled hc h (pk_le (ss_sum v c) 0 (fun hz => hp sA rA dA (ss_sh_eq hs (fun i _ => ss_S_z (Or.inl (by omega)) i))) (fun hV => pk_lt 0 N (fun hn => ?_) (fun hn => hp sA rA dA (ss_sh_eq hs (fun i _ => ss_S_z (Or.inr (by omega)) i))) rfl rfl (by decide) (by omega)) rfl rfl (by omega) (by decide))
  have h52 := sx_q52_shares (post := post) (sC := sC) (tA := tA) (sA := sA) (oA := oA) (rA := rA) (dA := dA) (r := r) hc hN hV h hv (fun sh rs od hsh => hp sh rs od (by rw [ss_S_R h5 hV hn]; exact hsh))
  refine pk_eq r 5 (fun e => ?_) (fun e => ?_) rfl rfl (by omega) (by decide)
  · have e1 : ss_bt r N = N := if_pos e
    have e2 : ss_tq r (ss_sum v c) N = ss_sum v c := if_pos e
    rw [e1, e2] at h52
    exact br_t (by rw [e]; rfl) h52
  · have e1 : ss_bt r N = 1 := if_neg e
    have e2 : ss_tq r (ss_sum v c) N = ss_sum v c / (N + 1) + 1 := if_neg e
    rw [e1, e2] at h52
    refine br_f (fun z => e ((nI_eq (b := 5) (by omega) (by decide)).mp z)) ⟨?_, nm_r (e' := nI (ss_sum v c / (N + 1) + 1)) ?_ h52⟩
    · rw [nI_1]; exact nI_ne0 (by omega) (by omega)
    · rw [nI_1, pk_div (by omega) (by omega) (by omega), nI_1]
theorem sx_gio_otherShares {post : SX → Prop} {c : Nat} {sC : Int32} {pA tA sA oA rA dA : Nat → Int32} {v q base : Nat → Nat} {L : Nat} (hc : c ≤ 6) (hL : L < 2 ^ 30) (hm : 0 < ss_cnt (ss_A v) c) (hod : ∀ i, i < c → 0 < v i → dA (ss_pl (ss_A v) q c i) = nI i) (hs : ss_sh c oA base) (hp : ∀ sh, ss_sh c sh (ss_rv (ss_A v) q c (ss_cnt (ss_A v) c) base L) → post (nI c, sC, pA, tA, sA, sh, rA, dA)) : wpX_giveInOrder__otherShares post (nI c, sC, pA, tA, sA, oA, rA, dA) (nI L) (nI (ss_cnt (ss_A v) c)) := by
  have hmc := ss_cnt_le (ss_A v) c
  refine br_t (nI_lt (a := 0) hm (by omega)) (pk_loop (σ := Nat → Int32) (fun n s sh => wX_giveInOrder__otherShares_8 post (nI L) (nI (ss_cnt (ss_A v) c)) (nI c) sC n (nI s) pA tA sA sh rA dA) (fun s sh => ss_sh c sh (ss_rv (ss_A v) q c (ss_cnt (ss_A v) c) base s)) L 0 oA (Nat.zero_le _) hs
    (fun n sh hsh => br_t (nI_le (Nat.le_refl L) (by omega)) (hp sh hsh))
    (fun n s sh hs hsh k => ?_))
  have hlt := Nat.mod_lt s hm
  obtain ⟨b, _, hb, Ab, hpl⟩ := ss_scan (A := ss_A v) (r := q) hlt
  have vb : 0 < v b := of_decide_eq_true Ab
  have er : nI s - nI s / nI (ss_cnt (ss_A v) c) * nI (ss_cnt (ss_A v) c) = nI (s % ss_cnt (ss_A v) c) := pk_rem (by omega) hm (by omega)
  have eo : dA (nI s - nI s / nI (ss_cnt (ss_A v) c) * nI (ss_cnt (ss_A v) c)).toNatClampNeg = nI b := by
    rw [er, nI_clamp (by omega), ← hpl]; exact hod b hb vb
  have eb : vp_in (nI b) 6 := vp_in_nI (by omega) (by decide)
  refine br_f (nI_ge hs (by omega)) ⟨nI_ne0 hm (by omega), by rw [er]; exact vp_in_nI (by omega) (by decide), by rw [eo]; exact eb, by rw [eo]; exact eb, nm_r (e' := upd sh b (nI (ss_rv (ss_A v) q c (ss_cnt (ss_A v) c) base s b + 1))) (by rw [eo, ss_sh_at hsh hc hb, nI_clamp (by omega), nI_1]) (nm_r (nI_1 s) (k _ (ss_sh_up hsh (fun i hi => ?_))))⟩
  rw [ss_rv_step hb Ab hpl hi]
  by_cases e : i = b
  · rw [if_pos e, if_pos e, e]
  · rw [if_neg e, if_neg e]
theorem sx_q52_otherShares {post : SX → Prop} {c : Nat} {sC : Int32} {pA tA sA oA rA dA : Nat → Int32} {v : Nat → Nat} {r N : Nat} (hc : c ≤ 6) (hN : N ≤ 31) (hV : 0 < ss_sum v c) (h : ss_sh c pA v) (hv : ∀ i, i < c → v i ≤ 2999) (hp : ∀ sh rs od, ss_sh c sh (ss_R r c v N) → post (nI c, sC, pA, tA, sA, sh, rs, od)) : ∃ n, wX_shareByQuota__polled_otherShares_52 post (nI N) (nI (ss_bt r N)) (nI (ss_tq r (ss_sum v c) N)) (nI c) sC n 0 pA tA sA oA rA dA := by
  have hq := ss_tq_pos (rule := r) (n := N) hV
  have hbt : ss_bt r N ≤ 31 := by
    unfold ss_bt
    by_cases e : r = 5
    · rw [if_pos e]; exact hN
    · rw [if_neg e]; omega
  have hsv := ss_sum_le (f := v) (c := c) (B := 2999) hv
  have hV2 : ss_sum v c ≤ 17994 := Nat.le_trans hsv (Nat.mul_le_mul hc (Nat.le_refl 2999))
  have hqb : ss_tq r (ss_sum v c) N < 2 ^ 30 := by
    unfold ss_tq
    by_cases e : r = 5
    · rw [if_pos e]; omega
    · rw [if_neg e]
      have := Nat.div_le_self (ss_sum v c) (N + 1)
      omega
  have hreb : ∀ i, i < c → ss_re r c v N i < 2 ^ 30 := fun i hi => by
    have : ss_re r c v N i < ss_tq r (ss_sum v c) N := Nat.mod_lt _ hq
    omega
  have hba := ss_ba_sum (rule := r) (c := c) (n := N) (v := v) hV
  have hm : 0 < ss_cnt (ss_A v) c := by
    obtain ⟨i, hi, hvi⟩ := ss_sum_pos c hV
    exact ss_cnt_pos hi (decide_eq_true hvi)
  refine pk_loop (σ := (Nat → Int32) × (Nat → Int32)) (fun n i s => wX_shareByQuota__polled_otherShares_52 post (nI N) (nI (ss_bt r N)) (nI (ss_tq r (ss_sum v c) N)) (nI c) sC n (nI i) pA tA sA s.1 s.2 dA) (fun i s => ss_sh i s.1 (ss_ba r c v N) ∧ ss_sh i s.2 (ss_re r c v N)) c 0 (oA, rA) (Nat.zero_le _) ⟨ss_sh_0, ss_sh_0⟩
    (fun n s hs => br_t (nI_le (Nat.le_refl c) (by omega)) (sx_obr hc h hv hs.2 hreb (fun od hod => sx_sum_otherShares hc hs.1 (nm_r (pk_sub hba) (sx_cnt_polled hc h hv (sx_gio_otherShares hc (by omega) hm hod hs.1 (fun sh hsh => hp sh s.2 od hsh)))))))
    (fun n i s hi hs k => ?_)
  have ei : vp_in (nI i) 6 := vp_in_nI (by omega) (by decide)
  have hx : v i * ss_bt r N ≤ 2999 * 31 := Nat.mul_le_mul (hv i hi) hbt
  have hne : ¬ nI (ss_tq r (ss_sum v c) N) = 0 := nI_ne0 hq (by omega)
  exact br_f (nI_ge hi (by omega)) ⟨ei, hne, ei, nm_r (e' := upd s.1 i (nI (ss_ba r c v N i))) (by
      rw [ss_sh_at h hc hi, nI_clamp (by omega), pk_mul, pk_div (by omega) hq (by omega)]; rfl) ⟨ei, hne, ei, nm_r (e' := upd s.2 i (nI (ss_re r c v N i))) (by
      rw [ss_sh_at h hc hi, nI_clamp (by omega), pk_mul, pk_rem (by omega) hq (by omega)]; rfl) (nm_r (nI_1 i) (k (upd s.1 i (nI (ss_ba r c v N i)), upd s.2 i (nI (ss_re r c v N i))) ⟨ss_sh_s hs.1, ss_sh_s hs.2⟩))⟩⟩
theorem sx_quota_otherShares {post : SX → Prop} {c : Nat} {sC : Int32} {pA tA sA oA rA dA : Nat → Int32} {v : Nat → Nat} {r N : Nat} (hc : c ≤ 6) (hr : r ≤ 6) (h5 : 5 ≤ r) (hN : N ≤ 31) (h : ss_sh c pA v) (hv : ∀ i, i < c → v i ≤ 2999) (hs : ss_sh c oA (fun _ => 0)) (hp : ∀ sh rs od, ss_sh c sh (ss_S r c v N) → post (nI c, sC, pA, tA, sA, sh, rs, od)) : wpX_shareByQuota__polled_otherShares post (nI c, sC, pA, tA, sA, oA, rA, dA) (nI r) (nI N) := by
  have hsv := ss_sum_le (f := v) (c := c) (B := 2999) hv
  have hV2 : ss_sum v c ≤ 17994 := Nat.le_trans hsv (Nat.mul_le_mul hc (Nat.le_refl 2999))
  refine sx_sum_polled hc h (pk_le (ss_sum v c) 0 (fun hz => hp oA rA dA (ss_sh_eq hs (fun i _ => ss_S_z (Or.inl (by omega)) i))) (fun hV => pk_lt 0 N (fun hn => ?_) (fun hn => hp oA rA dA (ss_sh_eq hs (fun i _ => ss_S_z (Or.inr (by omega)) i))) rfl rfl (by decide) (by omega)) rfl rfl (by omega) (by decide))
  have h52 := sx_q52_otherShares (post := post) (sC := sC) (tA := tA) (sA := sA) (oA := oA) (rA := rA) (dA := dA) (r := r) hc hN hV h hv (fun sh rs od hsh => hp sh rs od (by rw [ss_S_R h5 hV hn]; exact hsh))
  refine pk_eq r 5 (fun e => ?_) (fun e => ?_) rfl rfl (by omega) (by decide)
  · have e1 : ss_bt r N = N := if_pos e
    have e2 : ss_tq r (ss_sum v c) N = ss_sum v c := if_pos e
    rw [e1, e2] at h52
    exact br_t (by rw [e]; rfl) h52
  · have e1 : ss_bt r N = 1 := if_neg e
    have e2 : ss_tq r (ss_sum v c) N = ss_sum v c / (N + 1) + 1 := if_neg e
    rw [e1, e2] at h52
    refine br_f (fun z => e ((nI_eq (b := 5) (by omega) (by decide)).mp z)) ⟨?_, nm_r (e' := nI (ss_sum v c / (N + 1) + 1)) ?_ h52⟩
    · rw [nI_1]; exact nI_ne0 (by omega) (by omega)
    · rw [nI_1, pk_div (by omega) (by omega) (by omega), nI_1]
end
section
theorem sx_out_polled_shares {post : SX → Prop} {c : Nat} {sC : Int32} {pA tA sA oA rA dA : Nat → Int32} {v : Nat → Nat} {r N : Nat} (hc : c ≤ 6) (hr : r ≤ 6) (hN : N ≤ 31) (h : ss_sh c pA v) (hv : ∀ i, i < c → v i ≤ 2999) (hp : ∀ sh rs od, ss_sh c sh (ss_S r c v N) → post (nI c, sC, pA, tA, sh, oA, rs, od)) : wpX_shareOut__polled_shares post (nI c, sC, pA, tA, sA, oA, rA, dA) (nI r) (nI N) := by
  refine pk_loop (σ := Nat → Int32) (fun n i sh => wX_shareOut__polled_shares_3 post (nI r) (nI N) (nI c) sC n (nI i) pA tA sh oA rA dA) (fun i sh => ss_sh i sh (fun _ => 0)) c 0 sA (Nat.zero_le _) ss_sh_0
    (fun n sh hsh => br_t (nI_le (Nat.le_refl c) (by omega)) (sx_isQ hr (fun h4 => br_f (by decide) (sx_bq_polled_shares hc h4 hN h hv hsh (fun sh' hsh' => hp sh' rA dA (by rw [ss_S_q (by omega)]; exact hsh')))) (fun h5 => br_t rfl (sx_quota_shares hc hr h5 hN h hv hsh hp))))
    (fun n i sh hi hsh k => br_f (nI_ge hi (by omega)) ⟨vp_in_nI (by omega) (by decide), nm_r (e' := upd sh i (nI 0)) (by rw [nI_clamp (by omega)]; rfl) (nm_r (nI_1 i) (k _ (ss_sh_s (g := fun _ => 0) hsh)))⟩)
theorem sx_out_trial_shares {post : SX → Prop} {c : Nat} {sC : Int32} {pA tA sA oA rA dA : Nat → Int32} {v : Nat → Nat} {r N : Nat} (hc : c ≤ 6) (hr : r ≤ 4) (hN : N ≤ 31) (h : ss_sh c tA v) (hv : ∀ i, i < c → v i ≤ 2999) (hp : ∀ sh rs od, ss_sh c sh (ss_S r c v N) → post (nI c, sC, pA, tA, sh, oA, rs, od)) : wpX_shareOut__trial_shares post (nI c, sC, pA, tA, sA, oA, rA, dA) (nI r) (nI N) := by
  refine pk_loop (σ := Nat → Int32) (fun n i sh => wX_shareOut__trial_shares_3 post (nI r) (nI N) (nI c) sC n (nI i) pA tA sh oA rA dA) (fun i sh => ss_sh i sh (fun _ => 0)) c 0 sA (Nat.zero_le _) ss_sh_0
    (fun n sh hsh => br_t (nI_le (Nat.le_refl c) (by omega)) (sx_isQ (by omega) (fun h4 => br_f (by decide) (sx_bq_trial_shares hc h4 hN h hv hsh (fun sh' hsh' => hp sh' rA dA (by rw [ss_S_q (by omega)]; exact hsh')))) (fun h5 => absurd hr (by omega))))
    (fun n i sh hi hsh k => br_f (nI_ge hi (by omega)) ⟨vp_in_nI (by omega) (by decide), nm_r (e' := upd sh i (nI 0)) (by rw [nI_clamp (by omega)]; rfl) (nm_r (nI_1 i) (k _ (ss_sh_s (g := fun _ => 0) hsh)))⟩)
theorem sx_out_polled_otherShares {post : SX → Prop} {c : Nat} {sC : Int32} {pA tA sA oA rA dA : Nat → Int32} {v : Nat → Nat} {r N : Nat} (hc : c ≤ 6) (hr : r ≤ 6) (hN : N ≤ 31) (h : ss_sh c pA v) (hv : ∀ i, i < c → v i ≤ 2999) (hp : ∀ sh rs od, ss_sh c sh (ss_S r c v N) → post (nI c, sC, pA, tA, sA, sh, rs, od)) : wpX_shareOut__polled_otherShares post (nI c, sC, pA, tA, sA, oA, rA, dA) (nI r) (nI N) := by
  refine pk_loop (σ := Nat → Int32) (fun n i sh => wX_shareOut__polled_otherShares_3 post (nI r) (nI N) (nI c) sC n (nI i) pA tA sA sh rA dA) (fun i sh => ss_sh i sh (fun _ => 0)) c 0 oA (Nat.zero_le _) ss_sh_0
    (fun n sh hsh => br_t (nI_le (Nat.le_refl c) (by omega)) (sx_isQ hr (fun h4 => br_f (by decide) (sx_bq_polled_otherShares hc h4 hN h hv hsh (fun sh' hsh' => hp sh' rA dA (by rw [ss_S_q (by omega)]; exact hsh')))) (fun h5 => br_t rfl (sx_quota_otherShares hc hr h5 hN h hv hsh hp))))
    (fun n i sh hi hsh k => br_f (nI_ge hi (by omega)) ⟨vp_in_nI (by omega) (by decide), nm_r (e' := upd sh i (nI 0)) (by rw [nI_clamp (by omega)]; rfl) (nm_r (nI_1 i) (k _ (ss_sh_s (g := fun _ => 0) hsh)))⟩)
end
section
/-! the reference's sharing -/
theorem sy_votes {post : Int32 → Prop} {c : Nat} {sC : Int32} {vA sA kA : Nat → Int32} {v : Nat → Nat} (hc : c ≤ 6) (h : ss_sh c vA v) (hp : post (nI (ss_sum v c))) : wpY_votes post (nI c, sC, vA, sA, kA) :=
  ss_loop (fun n i => wY_votes_4 post (nI c) sC vA sA kA n (nI (ss_sum v i)) (nI i)) c 0 (Nat.zero_le _)
    (fun n => br_t (nI_le (Nat.le_refl c) (by omega)) hp)
    (fun n i _ hi ih => br_f (nI_ge hi (by omega)) ⟨vp_in_nI (by omega) (by decide), nm_r (e' := nI (ss_sum v (i + 1))) (by rw [ss_sh_at h hc hi, nI_add]; rfl) (nm_r (nI_1 i) ih)⟩)
theorem sy_divisor {post : Int64 → Prop} {c : Nat} {sC : Int32} {vA sA kA : Nat → Int32} {r x : Nat} (hr : r ≤ 4) (hx : x ≤ 31) (hp : post (lN (ss_dv r x))) : wpY_divisor post (nI c, sC, vA, sA, kA) (nI r) (nI x) := by
  unfold ss_dv at hp
  refine pk_eq r 0 (fun e0 => ?_) (fun e0 => pk_eq r 1 (fun e1 => ?_) (fun e1 => pk_eq r 2 (fun e2 => pk_eq x 0 (fun ex => ?_) (fun ex => ?_) rfl rfl (by omega) (by decide)) (fun e2 => pk_eq r 3 (fun e3 => ?_) (fun e3 => ?_) rfl rfl (by omega) (by decide)) rfl rfl (by omega) (by decide)) rfl rfl (by omega) (by decide)) rfl rfl (by omega) (by decide)
  · rw [if_pos e0] at hp
    rw [nI_1, nI_l (by omega)]; exact hp
  · rw [if_neg e0, if_pos e1] at hp
    have e5 : ((2 : Int32) * nI x + 1).toInt64 = lN (2 * x + 1) := by
      show (nI 2 * nI x + 1).toInt64 = _
      rw [pk_mul, nI_1, nI_l (by omega)]
    rw [e5]; exact hp
  · rw [if_neg e0, if_neg e1, if_pos e2, if_pos ex] at hp; exact hp
  · rw [if_neg e0, if_neg e1, if_pos e2, if_neg ex] at hp
    have e5 : ((10 : Int32) * nI x + 5).toInt64 = lN (10 * x + 5) := by
      show (nI 10 * nI x + nI 5).toInt64 = _
      rw [pk_mul, nI_add, nI_l (by omega)]
    rw [e5]; exact hp
  · rw [if_neg e0, if_neg e1, if_neg e2, if_pos e3] at hp
    have hb : x * (x + 1) ≤ 31 * 32 := Nat.mul_le_mul hx (by omega)
    rw [nI_1, pk_mul, nI_l (by omega)]; exact hp
  · rw [if_neg e0, if_neg e1, if_neg e2, if_neg e3] at hp
    rw [nI_l (by omega)]; exact hp
theorem sy_worth {post : Int64 → Prop} {c : Nat} {sC : Int32} {vA sA kA : Nat → Int32} {v g : Nat → Nat} {r i : Nat} (hc : c ≤ 6) (hr : r ≤ 4) (h : ss_sh c vA v) (hv : ∀ i, i < c → v i ≤ 2999) (hs : ss_sh c sA g) (hg : ∀ i, i < c → g i ≤ 31) (hi : i < c) (hp : post (lN (ss_wt r (v i) (g i)))) : wpY_worth post (nI c, sC, vA, sA, kA) (nI r) (nI i) := by
  have hvi := hv i hi
  have hgi := hg i hi
  have ei : vp_in (nI i) 6 := vp_in_nI (by omega) (by decide)
  have ev := ss_sh_at h hc hi
  have e6 : (vA (nI i).toNatClampNeg).toInt64 = lN (v i) := by rw [ev, nI_l (by omega)]
  unfold ss_wt at hp
  refine pk_eq r 3 (fun e => ⟨ei, pk_le (g i) 0 (fun hz => ⟨ei, ?_⟩) (fun hz => ⟨ei, ei, ?_⟩) (ss_sh_at hs hc hi) rfl (by omega) (by decide)⟩) (fun e => ⟨ei, ?_⟩) rfl rfl (by omega) (by decide)
  · rw [if_neg (by omega)] at hp
    rw [e6]; exact hp
  · rw [if_pos ⟨e, hz⟩] at hp
    rw [e6, lN_mul]; exact hp
  · rw [if_neg (fun z => e z.1)] at hp
    rw [e6]; exact hp
theorem sy_g61 {post : Int32 → Prop} {c : Nat} {sC : Int32} {vA sA kA : Nat → Int32} {v g : Nat → Nat} {r i b : Nat} (hc : c ≤ 6) (hr : r ≤ 4) (h : ss_sh c vA v) (hv : ∀ i, i < c → v i ≤ 2999) (hs : ss_sh c sA g) (hg : ∀ i, i < c → g i ≤ 31) (hi : i < c) (hb : b < c) (hn : ¬ (ss_dv r (g i) = 0 ∧ ss_dv r (g b) = 0)) (h1 : ss_gr r (v i) (g i) (v b) (g b) = true → post 1) (h0 : ss_gr r (v i) (g i) (v b) (g b) = false → post 0) : wY_isGreater_61 post (nI r) (nI i) (nI b) (lN (ss_dv r (g i))) (lN (ss_dv r (g b))) (nI c) sC vA sA kA := by
  rw [← ss_gy_gr] at h1 h0
  unfold ss_gy at h1 h0
  rw [if_neg hn] at h1 h0
  refine sy_worth hc hr h hv hs hg hi (sy_worth hc hr h hv hs hg hb ?_)
  have e : lN (ss_wt r (v i) (g i)) * lN (ss_dv r (g b)) ≤ lN (ss_wt r (v b) (g b)) * lN (ss_dv r (g i)) ↔ ss_wt r (v i) (g i) * ss_dv r (g b) ≤ ss_wt r (v b) (g b) * ss_dv r (g i) := by
    rw [lN_mul, lN_mul]; exact pk_lLE (ss_m63 (ss_wt_lt (hv i hi)) (ss_dv_lt (hg b hb))) (ss_m63 (ss_wt_lt (hv b hb)) (ss_dv_lt (hg i hi)))
  exact ek_if e (fun z => h0 (decide_eq_false (by omega))) (fun z => h1 (decide_eq_true (by omega)))
theorem sy_isGreater {post : Int32 → Prop} {c : Nat} {sC : Int32} {vA sA kA : Nat → Int32} {v g : Nat → Nat} {r i b : Nat} (hc : c ≤ 6) (hr : r ≤ 4) (h : ss_sh c vA v) (hv : ∀ i, i < c → v i ≤ 2999) (hs : ss_sh c sA g) (hg : ∀ i, i < c → g i ≤ 31) (hi : i < c) (hb : b < c) (h1 : ss_gr r (v i) (g i) (v b) (g b) = true → post 1) (h0 : ss_gr r (v i) (g i) (v b) (g b) = false → post 0) : wpY_isGreater post (nI c, sC, vA, sA, kA) (nI r) (nI i) (nI b) := by
  have ei : vp_in (nI i) 6 := vp_in_nI (by omega) (by decide)
  have eb : vp_in (nI b) 6 := vp_in_nI (by omega) (by decide)
  have hvi := hv i hi
  have hvb := hv b hb
  refine ⟨ei, ?_⟩
  rw [ss_sh_at hs hc hi, ss_sh_at hs hc hb]
  refine sy_divisor hr (hg i hi) ⟨eb, sy_divisor hr (hg b hb) ?_⟩
  refine ek_if (d := ss_dv r (g i) = 0) (lN_eq (b := 0) (ss_dv_lt (hg i hi)) (by decide)) (fun e => ek_if (d := ss_dv r (g b) = 0) (lN_eq (b := 0) (ss_dv_lt (hg b hb)) (by decide)) (fun e' => ⟨ei, eb, pk_le (v i) (v b) (fun z => h0 ?_) (fun z => h1 ?_) (ss_sh_at h hc hi) (ss_sh_at h hc hb) (by omega) (by omega)⟩) (fun e' => ?_)) (fun e => ?_)
  · unfold ss_gr
    rw [if_pos ⟨e, e'⟩]; exact decide_eq_false (by omega)
  · unfold ss_gr
    rw [if_pos ⟨e, e'⟩]; exact decide_eq_true z
  · exact sy_g61 hc hr h hv hs hg hi hb (fun z => e' z.2) h1 h0
  · exact sy_g61 hc hr h hv hs hg hi hb (fun z => e z.1) h1 h0
theorem sy_q13 {post : SY → Prop} {J : Int32 → (Nat → Int32) → (Nat → Int32) → (Nat → Int32) → Prop} {c : Nat} {x2 sC : Int32} {vA sA kA : Nat → Int32} {v g : Nat → Nat} {r s : Nat} (hc : c ≤ 6) (hr : r ≤ 4) (h : ss_sh c vA v) (hv : ∀ i, i < c → v i ≤ 2999) (hs : ss_sh c sA g) (hg : ∀ i, i < c → g i ≤ 31) (hJ0 : ss_pick r v g c = none → J (nI (s + 1)) vA sA kA) (hJ1 : ∀ b, ss_pick r v g c = some b → J (nI (s + 1)) vA (upd sA b (nI (g b + 1))) kA) : ∃ n, wY_giveByQuotients_13 post J (nI r) x2 (nI s) (nI c) sC vA sA kA n (-1) 0 := by
  refine pk_loop (σ := Option Nat) (fun n i o => wY_giveByQuotients_13 post J (nI r) x2 (nI s) (nI c) sC vA sA kA n (ss_cd (-1) o) (nI i)) (fun i o => o = ss_pick r v g i) c 0 none (Nat.zero_le _) rfl
    (fun n o ho => br_t (nI_le (Nat.le_refl c) (by omega)) ?_)
    (fun n i o hi ho k => ?_)
  · cases o with
    | none => exact br_t (by decide) (nm_r (nI_1 s) (hJ0 ho.symm))
    | some d =>
      have hd := (ss_pick_lt c d ho.symm).1
      have ed : vp_in (nI d) 6 := vp_in_nI (by omega) (by decide)
      exact br_f (nI_pos (by omega)) ⟨ed, ed, nm_r (e' := upd sA d (nI (g d + 1))) (by
        show upd sA (nI d).toNatClampNeg (sA (nI d).toNatClampNeg + 1) = _
        rw [ss_sh_at hs hc hd, nI_clamp (by omega), nI_1]) (nm_r (nI_1 s) (hJ1 d ho.symm))⟩
  · have hvi := hv i hi
    have ei : vp_in (nI i) 6 := vp_in_nI (by omega) (by decide)
    refine br_f (nI_ge hi (by omega)) ⟨ei, pk_le (v i) 0 (fun hz => nm_r (nI_1 i) (k o (by rw [ho, ss_pick_z hz]))) (fun hz => ?_) (ss_sh_at h hc hi) rfl (by omega) (by decide)⟩
    cases o with
    | none => exact br_t (by decide) (nm_r (nI_1 i) (k (some i) (ss_pick_n hz ho.symm).symm))
    | some d =>
      have hd := (ss_pick_lt i d ho.symm).1
      exact br_f (nI_pos (by omega)) (sy_isGreater hc hr h hv hs hg hi (by omega) (fun h1 => br_f (by decide) (nm_r (nI_1 i) (k (some i) (ss_pick_1 hz ho.symm h1).symm))) (fun h0 => br_t rfl (nm_r (nI_1 i) (k (some d) (ss_pick_2 hz ho.symm h0).symm))))
theorem sy_gq {post : SY → Prop} {c : Nat} {sC : Int32} {vA sA kA : Nat → Int32} {v : Nat → Nat} {r N : Nat} (hc : c ≤ 6) (hr : r ≤ 4) (hN : N ≤ 31) (h : ss_sh c vA v) (hv : ∀ i, i < c → v i ≤ 2999) (hs : ss_sh c sA (fun _ => 0)) (hp : ∀ sh, ss_sh c sh (ss_q r c v N) → post (nI c, sC, vA, sh, kA)) : wpY_giveByQuotients post (nI c, sC, vA, sA, kA) (nI r) (nI N) :=
  pk_loop (σ := Nat → Int32) (fun n i sh => wY_giveByQuotients_2 post (nI r) (nI N) (nI c) sC n (nI i) vA sh kA) (fun i sh => ss_sh c sh (ss_q r c v i)) N 0 sA (Nat.zero_le _) hs
    (fun n sh hsh => br_t (nI_le (Nat.le_refl N) (by omega)) (hp sh hsh))
    (fun n i sh hi hsh k => br_f (nI_ge hi (by omega)) (sy_q13 hc hr h hv hsh (fun j _ => Nat.le_trans (ss_q_le i j) (by omega)) (fun hq => k sh (by rw [ss_q_none hq]; exact hsh)) (fun d hq => k _ (ss_sh_up hsh (fun j _ => by
      rw [ss_q_some hq]
      show (if j = d then ss_q r c v i j + 1 else ss_q r c v i j) = _
      by_cases e : j = d
      · rw [if_pos e, if_pos e, e]
      · rw [if_neg e, if_neg e])))))
/-! the reference's rests -/
theorem sy_r102 {post : SY → Prop} {J : Int32 → Int32 → (Nat → Int32) → (Nat → Int32) → (Nat → Int32) → Prop} {c : Nat} {sC x7 : Int32} {vA sA kA : Nat → Int32} {v q g : Nat → Nat} {l B T t : Nat} (hc : c ≤ 6) (h : ss_sh c vA v) (hv : ∀ i, i < c → v i ≤ 2999) (hs : ss_sh c sA g) (hB : B ≤ 31) (hT : 0 < T) (hT2 : T < 2 ^ 30) (hq : ∀ i, i < c → q i = v i * B % T) (hd : ∀ i, i < c → 0 < v i → bt x7 i = decide (ss_pl (ss_A v) q c i < t)) (hJ0 : ss_sc (ss_op (ss_A v) q c t) q c = none → J (nI (l + 1)) 0 vA sA kA) (hJ1 : ∀ b, ss_sc (ss_op (ss_A v) q c t) q c = some b → J (nI l) (x7 ||| ((1 : Int32) <<< (nI b &&& 31))) vA (upd sA b (nI (g b + 1))) kA) : ∃ n, wY_giveByRests_102 post J (nI (l + 1)) (nI T) (nI B) x7 (nI c) sC vA sA kA n (-1) 0 := by
  refine pk_loop (σ := Option Nat) (fun n i o => wY_giveByRests_102 post J (nI (l + 1)) (nI T) (nI B) x7 (nI c) sC vA sA kA n (ss_cd (-1) o) (nI i)) (fun i o => o = ss_sc (ss_op (ss_A v) q c t) q i) c 0 none (Nat.zero_le _) rfl
    (fun n o ho => br_t (nI_le (Nat.le_refl c) (by omega)) ?_)
    (fun n i o hi ho k => ?_)
  · cases o with
    | none => exact br_f (by decide) (hJ0 ho.symm)
    | some d =>
      have hdc := (ss_sc_some c d ho.symm).1
      have ed : vp_in (nI d) 6 := vp_in_nI (by omega) (by decide)
      exact br_t (nI_pos' (by omega)) (nm_e ⟨ed, ed, nm_r (e' := upd sA d (nI (g d + 1))) (by
        show upd sA (nI d).toNatClampNeg (sA (nI d).toNatClampNeg + 1) = _
        rw [ss_sh_at hs hc hdc, nI_clamp (by omega), nI_1]) (nm_r (pk_m1 l) (hJ1 d ho.symm))⟩)
  · have hvi := hv i hi
    have ei : vp_in (nI i) 6 := vp_in_nI (by omega) (by decide)
    have hne : ¬ nI T = 0 := nI_ne0 hT (by omega)
    have hrem : ∀ j, j < c → vA (nI j).toNatClampNeg * nI B - vA (nI j).toNatClampNeg * nI B / nI T * nI T = nI (q j) := fun j hj => by
      have hx : v j * B ≤ 2999 * 31 := Nat.mul_le_mul (hv j hj) hB
      rw [ss_sh_at h hc hj, pk_mul, pk_rem (by omega) hT (by omega), hq j hj]
    have hqb : ∀ j, j < c → q j < 2 ^ 30 := fun j hj => by
      rw [hq j hj]
      exact Nat.lt_trans (Nat.mod_lt _ hT) hT2
    have closed : ss_op (ss_A v) q c t i = false → wY_giveByRests_135 post J (wY_giveByRests_102 post J (nI (l + 1)) (nI T) (nI B) x7 (nI c) sC vA sA kA n) (nI (l + 1)) (nI T) (nI B) x7 (ss_cd (-1) o) (nI i) (nI c) sC vA sA kA := fun hz => br_t rfl (nm_r (nI_1 i) (k o (by rw [ho, ss_sc_z hz])))
    refine br_f (nI_ge hi (by omega)) ⟨ei, pk_le (v i) 0 (fun hz => closed ?_) (fun hz => ek_if (ss_bit x7 (i := i) (by omega)) (fun hb => ?_) (fun hb => closed ?_)) (ss_sh_at h hc hi) rfl (by omega) (by decide)⟩
    · show (decide (0 < v i) && _) = false
      rw [decide_eq_false (by omega)]; rfl
    · have hop : ss_op (ss_A v) q c t i = true := by
        rw [hd i hi hz, decide_eq_false_iff_not] at hb
        exact ss_op_iff.mpr ⟨decide_eq_true hz, by omega⟩
      refine br_f (by decide) ?_
      cases o with
      | none => exact br_t (by decide) (nm_r (nI_1 i) (k (some i) (ss_sc_n hop ho.symm).symm))
      | some d =>
        have hdi := (ss_sc_some i d ho.symm).1
        have ed : vp_in (nI d) 6 := vp_in_nI (by omega) (by decide)
        have q1 := hqb i hi
        have q2 := hqb d (by omega)
        exact br_f (nI_pos (by omega)) ⟨ei, hne, ed, hne, pk_le (q i) (q d) (fun z => nm_r (nI_1 i) (k (some d) (ss_sc_2 hop ho.symm z).symm)) (fun z => nm_r (nI_1 i) (k (some i) (ss_sc_1 hop ho.symm z).symm)) (hrem i hi) (hrem d (by omega)) (by omega) (by omega)⟩
    · cases hop : ss_op (ss_A v) q c t i with
      | false => rfl
      | true =>
        exfalso
        apply hb
        rw [hd i hi hz, decide_eq_false_iff_not]
        have := (ss_op_iff.mp hop).2
        omega
theorem sy_r91 {post : SY → Prop} {c : Nat} {sC : Int32} {vA sA kA : Nat → Int32} {v q base : Nat → Nat} {L B T : Nat} (hc : c ≤ 6) (hL : L < 2 ^ 30) (h : ss_sh c vA v) (hv : ∀ i, i < c → v i ≤ 2999) (hm : 0 < ss_cnt (ss_A v) c) (hs : ss_sh c sA base) (hB : B ≤ 31) (hT : 0 < T) (hT2 : T < 2 ^ 30) (hq : ∀ i, i < c → q i = v i * B % T) (hp : ∀ sh, ss_sh c sh (ss_rv (ss_A v) q c (ss_cnt (ss_A v) c) base L) → post (nI c, sC, vA, sh, kA)) : ∃ n, wY_giveByRests_91 post (nI T) (nI B) (nI c) sC n (nI L) 0 vA sA kA := by
  refine loop_m (σ := Nat × Nat × Int32 × (Nat → Int32)) (fun n s => wY_giveByRests_91 post (nI T) (nI B) (nI c) sC n (nI (L - s.1)) s.2.2.1 vA s.2.2.2 kA)
    (fun s => s.1 ≤ L ∧ (s.2.1 = s.1 % ss_cnt (ss_A v) c ∨ (s.2.1 = ss_cnt (ss_A v) c ∧ s.1 % ss_cnt (ss_A v) c = 0)) ∧ (∀ i, i < c → 0 < v i → bt s.2.2.1 i = decide (ss_pl (ss_A v) q c i < s.2.1)) ∧ ss_sh c s.2.2.2 (ss_rv (ss_A v) q c (ss_cnt (ss_A v) c) base s.1))
    (fun s => 2 * (L - s.1) + s.2.1 / ss_cnt (ss_A v) c) (fun n s hI k => ?_) (0, 0, 0, sA) ⟨Nat.zero_le _, Or.inl (Nat.zero_mod _).symm, fun i _ _ => (b_0 i).trans (decide_eq_false (Nat.not_lt_zero _)).symm, hs⟩
  obtain ⟨s, t, x7, sh⟩ := s
  obtain ⟨hsL, ht, hd, hsh⟩ := hI
  dsimp only at hsL ht hd hsh k ⊢
  by_cases e : s = L
  · subst e
    exact br_t (nI_le (a := s - s) (b := 0) (by omega) (by decide)) (hp sh hsh)
  · obtain ⟨l, hl⟩ : ∃ l, L - s = l + 1 := ⟨L - s - 1, by omega⟩
    have hlt := Nat.mod_lt s hm
    rw [hl]
    refine br_f (nI_nle (by omega) (by omega)) (sy_r102 hc h hv hsh hB hT hT2 hq hd (fun hn => ?_) (fun b hb => ?_))
    · have htm : t = ss_cnt (ss_A v) c ∧ s % ss_cnt (ss_A v) c = 0 := by
        cases ht with
        | inr ht => exact ht
        | inl ht =>
          exfalso
          obtain ⟨b, hb, _⟩ := ss_scan (A := ss_A v) (r := q) (c := c) (t := t) (by omega)
          rw [hb] at hn
          exact nomatch hn
      have h1 : t / ss_cnt (ss_A v) c = 1 := by rw [htm.1]; exact Nat.div_self hm
      have h2 : 0 / ss_cnt (ss_A v) c = 0 := Nat.zero_div _
      have := k (s, 0, 0, sh) ⟨hsL, Or.inl htm.2.symm, fun i _ _ => (b_0 i).trans (decide_eq_false (Nat.not_lt_zero _)).symm, hsh⟩ (by
        show 2 * (L - s) + 0 / ss_cnt (ss_A v) c < 2 * (L - s) + t / ss_cnt (ss_A v) c
        rw [h1, h2]; omega)
      rw [← hl]; exact this
    · obtain ⟨hbc, Ab, htb, hpl⟩ := ss_best hb
      have hpm := ss_pl_m (r := q) hbc Ab
      have htt : t = s % ss_cnt (ss_A v) c := by
        cases ht with
        | inl ht => exact ht
        | inr ht => omega
      have hpt : ss_pl (ss_A v) q c b = t := by
        rw [hpl]; exact ss_N t (by omega)
      have hdm : (t + 1) / ss_cnt (ss_A v) c ≤ 1 := by
        have : (t + 1) / ss_cnt (ss_A v) c ≤ ss_cnt (ss_A v) c / ss_cnt (ss_A v) c := Nat.div_le_div_right (by omega)
        rw [Nat.div_self hm] at this
        exact this
      have hmod : t + 1 = (s + 1) % ss_cnt (ss_A v) c ∨ (t + 1 = ss_cnt (ss_A v) c ∧ (s + 1) % ss_cnt (ss_A v) c = 0) := by
        have hadd := Nat.add_mod s 1 (ss_cnt (ss_A v) c)
        by_cases em : t + 1 = ss_cnt (ss_A v) c
        · right
          refine ⟨em, ?_⟩
          have : s % ss_cnt (ss_A v) c + 1 = ss_cnt (ss_A v) c := by omega
          have h3 : (s + 1) % ss_cnt (ss_A v) c = (s % ss_cnt (ss_A v) c + 1) % ss_cnt (ss_A v) c := (Nat.mod_add_mod s (ss_cnt (ss_A v) c) 1).symm
          rw [h3, this]; exact Nat.mod_self _
        · left
          have h3 : (s + 1) % ss_cnt (ss_A v) c = (s % ss_cnt (ss_A v) c + 1) % ss_cnt (ss_A v) c := (Nat.mod_add_mod s (ss_cnt (ss_A v) c) 1).symm
          rw [h3, ← htt]; exact (Nat.mod_eq_of_lt (by omega)).symm
      have := k (s + 1, t + 1, x7 ||| ((1 : Int32) <<< (nI b &&& 31)), upd sh b (nI (ss_rv (ss_A v) q c (ss_cnt (ss_A v) c) base s b + 1))) ⟨by show s + 1 ≤ L; omega, hmod, fun i hi hvi => ?_, ss_sh_up hsh (fun i hi => ?_)⟩ (by
        show 2 * (L - (s + 1)) + (t + 1) / ss_cnt (ss_A v) c < 2 * (L - s) + t / ss_cnt (ss_A v) c
        generalize (t + 1) / ss_cnt (ss_A v) c = z1 at hdm ⊢
        generalize t / ss_cnt (ss_A v) c = z2
        omega)
      · dsimp only at this
        rw [show L - (s + 1) = l from by omega] at this
        exact this
      · show bt (x7 ||| ((1 : Int32) <<< (nI b &&& 31))) i = decide (ss_pl (ss_A v) q c i < t + 1)
        rw [ss_bor x7 (by omega) (by omega), hd i hi hvi]
        by_cases e2 : i = b
        · subst e2
          rw [decide_eq_true rfl, Bool.or_true, decide_eq_true (by omega)]
        · have h3 : ss_pl (ss_A v) q c i ≠ t := fun z => e2 (ss_pl_inj (r := q) hi hbc (decide_eq_true hvi) Ab (by omega))
          rw [decide_eq_false e2, Bool.or_false]
          by_cases e4 : ss_pl (ss_A v) q c i < t
          · rw [decide_eq_true e4, decide_eq_true (by omega)]
          · rw [decide_eq_false e4, decide_eq_false (by omega)]
      · rw [ss_rv_step hbc Ab (by omega) hi]
        by_cases e2 : i = b
        · rw [if_pos e2, if_pos e2, e2]
        · rw [if_neg e2, if_neg e2]
theorem sy_r41 {post : SY → Prop} {c : Nat} {sC : Int32} {vA sA kA : Nat → Int32} {v : Nat → Nat} {r N : Nat} (hc : c ≤ 6) (hN : N ≤ 31) (hV : 0 < ss_sum v c) (h : ss_sh c vA v) (hv : ∀ i, i < c → v i ≤ 2999) (hp : ∀ sh, ss_sh c sh (ss_R r c v N) → post (nI c, sC, vA, sh, kA)) : ∃ n, wY_giveByRests_41 post (nI (ss_tq r (ss_sum v c) N)) (nI (ss_bt r N)) (nI c) sC n (nI N) 0 vA sA kA := by
  have hq := ss_tq_pos (rule := r) (n := N) hV
  have hbt : ss_bt r N ≤ 31 := by
    unfold ss_bt
    by_cases e : r = 5
    · rw [if_pos e]; exact hN
    · rw [if_neg e]; omega
  have hsv := ss_sum_le (f := v) (c := c) (B := 2999) hv
  have hV2 : ss_sum v c ≤ 17994 := Nat.le_trans hsv (Nat.mul_le_mul hc (Nat.le_refl 2999))
  have hqb : ss_tq r (ss_sum v c) N < 2 ^ 30 := by
    unfold ss_tq
    by_cases e : r = 5
    · rw [if_pos e]; omega
    · rw [if_neg e]
      have := Nat.div_le_self (ss_sum v c) (N + 1)
      omega
  have hba := ss_ba_sum (rule := r) (c := c) (n := N) (v := v) hV
  have hm : 0 < ss_cnt (ss_A v) c := by
    obtain ⟨i, hi, hvi⟩ := ss_sum_pos c hV
    exact ss_cnt_pos hi (decide_eq_true hvi)
  refine pk_loop (σ := Nat → Int32) (fun n i sh => wY_giveByRests_41 post (nI (ss_tq r (ss_sum v c) N)) (nI (ss_bt r N)) (nI c) sC n (nI (N - ss_sum (ss_ba r c v N) i)) (nI i) vA sh kA) (fun i sh => ss_sh i sh (ss_ba r c v N)) c 0 sA (Nat.zero_le _) ss_sh_0
    (fun n sh hsh => br_t (nI_le (Nat.le_refl c) (by omega)) (sy_r91 hc (by omega) h hv hm hsh hbt hq hqb (fun i _ => rfl) hp))
    (fun n i sh hi hsh k => ?_)
  have ei : vp_in (nI i) 6 := vp_in_nI (by omega) (by decide)
  have hx : v i * ss_bt r N ≤ 2999 * 31 := Nat.mul_le_mul (hv i hi) hbt
  have hmo := ss_sum_mono (f := ss_ba r c v N) (a := i + 1) c (by omega)
  have hs1 : ss_sum (ss_ba r c v N) (i + 1) = ss_sum (ss_ba r c v N) i + ss_ba r c v N i := rfl
  refine br_f (nI_ge hi (by omega)) ⟨ei, nI_ne0 hq (by omega), ei, nm_r (e' := upd sh i (nI (ss_ba r c v N i))) (by
      rw [ss_sh_at h hc hi, nI_clamp (by omega), pk_mul, pk_div (by omega) hq (by omega)]; rfl) ⟨ei, nm_r (e' := nI (N - ss_sum (ss_ba r c v N) (i + 1))) ?_ (nm_r (nI_1 i) (k _ (ss_sh_s hsh)))⟩⟩
  rw [nI_clamp (by omega), pk_us, pk_sub (by omega), hs1]
  exact congrArg nI (by omega)
theorem sy_rests {post : SY → Prop} {c : Nat} {sC : Int32} {vA sA kA : Nat → Int32} {v : Nat → Nat} {r N : Nat} (hc : c ≤ 6) (hr : r ≤ 6) (hN : N ≤ 31) (hV : 0 < ss_sum v c) (h : ss_sh c vA v) (hv : ∀ i, i < c → v i ≤ 2999) (hp : ∀ sh, ss_sh c sh (ss_R r c v N) → post (nI c, sC, vA, sh, kA)) : wpY_giveByRests post (nI c, sC, vA, sA, kA) (nI r) (nI N) := by
  have hsv := ss_sum_le (f := v) (c := c) (B := 2999) hv
  have hV2 : ss_sum v c ≤ 17994 := Nat.le_trans hsv (Nat.mul_le_mul hc (Nat.le_refl 2999))
  have h41 := sy_r41 (post := post) (sC := sC) (sA := sA) (kA := kA) (r := r) hc hN hV h hv hp
  refine sy_votes hc h (pk_eq r 5 (fun e => ?_) (fun e => ⟨?_, ?_⟩) rfl rfl (by omega) (by decide))
  · have e1 : ss_bt r N = N := if_pos e
    have e2 : ss_tq r (ss_sum v c) N = ss_sum v c := if_pos e
    rw [e1, e2] at h41
    exact br_t (by rw [e]; rfl) h41
  · rw [nI_1]; exact nI_ne0 (by omega) (by omega)
  · have e1 : ss_bt r N = 1 := if_neg e
    have e2 : ss_tq r (ss_sum v c) N = ss_sum v c / (N + 1) + 1 := if_neg e
    rw [e1, e2] at h41
    rw [nI_1 N, pk_div (by omega) (by omega) (by omega), nI_1 (ss_sum v c / (N + 1))]
    exact br_f (fun z => e ((nI_eq (b := 5) (by omega) (by decide)).mp z)) h41
theorem sy_give {post : SY → Prop} {c : Nat} {sC : Int32} {vA sA kA : Nat → Int32} {v : Nat → Nat} {r N : Nat} (hc : c ≤ 6) (hr : r ≤ 6) (hN : N ≤ 31) (h : ss_sh c vA v) (hv : ∀ i, i < c → v i ≤ 2999) (hp : ∀ sh, ss_sh c sh (ss_S r c v N) → post (nI c, sC, vA, sh, kA)) : wpY_give post (nI c, sC, vA, sA, kA) (nI r) (nI N) := by
  have hsv := ss_sum_le (f := v) (c := c) (B := 2999) hv
  have hV2 : ss_sum v c ≤ 17994 := Nat.le_trans hsv (Nat.mul_le_mul hc (Nat.le_refl 2999))
  exact pk_loop (σ := Nat → Int32) (fun n i sh => wY_give_2 post (nI r) (nI N) (nI c) sC n (nI i) vA sh kA) (fun i sh => ss_sh i sh (fun _ => 0)) 6 0 sA (Nat.zero_le _) ss_sh_0
    (fun n sh hsh => br_t (nI_le (Nat.le_refl 6) (by decide)) (sy_votes hc h (pk_eq (ss_sum v c) 0 (fun hz => hp sh (ss_sh_eq (ss_sh_le hc hsh) (fun i _ => ss_S_z (Or.inl hz) i))) (fun hz => pk_eq N 0 (fun hn => hp sh (ss_sh_eq (ss_sh_le hc hsh) (fun i _ => ss_S_z (Or.inr hn) i))) (fun hn => pk_le 5 r (fun h5 => sy_rests hc hr hN (by omega) h hv (fun sh' hsh' => hp sh' (by rw [ss_S_R h5 (by omega) (by omega)]; exact hsh'))) (fun h5 => sy_gq hc (by omega) hN h hv (ss_sh_le hc hsh) (fun sh' hsh' => hp sh' (by rw [ss_S_q (by omega)]; exact hsh'))) rfl rfl (by decide) (by omega)) rfl rfl (by omega) (by decide)) rfl rfl (by omega) (by decide))))
    (fun n i sh hi hsh k => br_f (nI_ge (b := 6) hi (by decide)) ⟨vp_in_nI hi (by decide), nm_r (e' := upd sh i (nI 0)) (by rw [nI_clamp (by omega)]; rfl) (nm_r (nI_1 i) (k _ (ss_sh_s (g := fun _ => 0) hsh)))⟩)
theorem sy_keep {post : SY → Prop} {c : Nat} {sC : Int32} {vA sA kA : Nat → Int32} {g : Nat → Nat} (hc : c ≤ 6) (hs : ss_sh c sA g) (hp : ∀ kp, ss_sh c kp g → post (nI c, sC, vA, sA, kp)) : wpY_keep post (nI c, sC, vA, sA, kA) :=
  pk_loop (σ := Nat → Int32) (fun n i kp => wY_keep_2 post (nI c) sC n (nI i) vA sA kp) (fun i kp => ∀ j, j < i → kp j = sA j) 6 0 kA (Nat.zero_le _) (fun j hj => absurd hj (Nat.not_lt_zero j))
    (fun n kp hk => br_t (nI_le (Nat.le_refl 6) (by decide)) (hp kp (fun i hi => (hk i (by omega)).trans (hs i hi))))
    (fun n i kp hi hk k => br_f (nI_ge (b := 6) hi (by decide)) ⟨vp_in_nI hi (by decide), vp_in_nI hi (by decide), nm_r (e' := upd kp i (sA i)) (by rw [nI_clamp (by omega)]) (nm_r (nI_1 i) (k _ (fun j hj => by
      by_cases e : j = i
      · rw [e]; exact pk_us
      · rw [pk_un e]; exact hk j (by omega))))⟩)
end
section
/-! guards: an argument out of range, and one within -/
theorem ss_out {x : Int32} {n : Nat} (hn : n < 2 ^ 30) (h : x < 0 ∨ nI n ≤ x) : x < 0 ∨ (¬ x < 0 ∧ ∃ j : Nat, n ≤ j ∧ j < 2 ^ 31 ∧ x = nI j) := by
  cases h with
  | inl h => exact Or.inl h
  | inr h =>
    by_cases h0 : x < 0
    · exact Or.inl h0
    · obtain ⟨j, hj, rfl⟩ := nI_of h0
      rw [nI_leI (by omega) hj] at h
      exact Or.inr ⟨h0, j, h, hj, rfl⟩
theorem ss_ix (x : Int32) {n : Nat} (hn : n < 2 ^ 31) : (x < 0 ∨ nI n ≤ x) ∨ ∃ j : Nat, j < n ∧ x = nI j := by
  rcases pk_ix x hn with h | h | h
  · exact Or.inl (Or.inl h)
  · exact Or.inl (Or.inr h)
  · exact Or.inr h
theorem sx_isVotes_b {post : Int32 → Prop} {c : Nat} {sC : Int32} {pA tA sA oA rA dA : Nat → Int32} {x : Int32} (h : x < 0 ∨ nI 1000 ≤ x) (hp : post 0) : wpX_isVotes post (nI c, sC, pA, tA, sA, oA, rA, dA) x := by
  rcases ss_out (by decide) h with h0 | ⟨h0, j, h1, h2, rfl⟩
  · exact br_t h0 hp
  · exact br_f h0 (br_t (nI_lt (a := 999) (by omega) h2) hp)
theorem sx_isVotes_o {post : Int32 → Prop} {c : Nat} {sC : Int32} {pA tA sA oA rA dA : Nat → Int32} {x : Nat} (h : x < 1000) (hp : post 1) : wpX_isVotes post (nI c, sC, pA, tA, sA, oA, rA, dA) (nI x) :=
  br_f (nI_pos (by omega)) (br_f (nI_nlt (a := 999) (b := x) (by omega) (by decide)) hp)
theorem sx_isRule_b {post : Int32 → Prop} {c : Nat} {sC : Int32} {pA tA sA oA rA dA : Nat → Int32} {x : Int32} (h : x < 0 ∨ nI 7 ≤ x) (hp : post 0) : wpX_isRule post (nI c, sC, pA, tA, sA, oA, rA, dA) x := by
  rcases ss_out (by decide) h with h0 | ⟨h0, j, h1, h2, rfl⟩
  · exact br_t h0 hp
  · exact br_f h0 (br_t (nI_lt (a := 6) (by omega) h2) hp)
theorem sx_isRule_o {post : Int32 → Prop} {c : Nat} {sC : Int32} {pA tA sA oA rA dA : Nat → Int32} {x : Nat} (h : x < 7) (hp : post 1) : wpX_isRule post (nI c, sC, pA, tA, sA, oA, rA, dA) (nI x) :=
  br_f (nI_pos (by omega)) (br_f (nI_nlt (a := 6) (b := x) (by omega) (by decide)) hp)
theorem sx_isQuotientRule_b {post : Int32 → Prop} {c : Nat} {sC : Int32} {pA tA sA oA rA dA : Nat → Int32} {x : Int32} (h : x < 0 ∨ nI 5 ≤ x) (hp : post 0) : wpX_isQuotientRule post (nI c, sC, pA, tA, sA, oA, rA, dA) x := by
  rcases ss_out (by decide) h with h0 | ⟨h0, j, h1, h2, rfl⟩
  · exact br_t h0 hp
  · exact br_f h0 (br_t (nI_lt (a := 4) (by omega) h2) hp)
theorem sx_isQuotientRule_o {post : Int32 → Prop} {c : Nat} {sC : Int32} {pA tA sA oA rA dA : Nat → Int32} {x : Nat} (h : x < 5) (hp : post 1) : wpX_isQuotientRule post (nI c, sC, pA, tA, sA, oA, rA, dA) (nI x) :=
  br_f (nI_pos (by omega)) (br_f (nI_nlt (a := 4) (b := x) (by omega) (by decide)) hp)
theorem sx_isList_b {post : Int32 → Prop} {c : Nat} {sC : Int32} {pA tA sA oA rA dA : Nat → Int32} {x : Int32} (hc : c ≤ 6) (h : x < 0 ∨ nI c ≤ x) (hp : post 0) : wpX_isList post (nI c, sC, pA, tA, sA, oA, rA, dA) x := by
  rcases ss_out (by omega) h with h0 | ⟨h0, j, h1, h2, rfl⟩
  · exact br_t h0 hp
  · exact br_f h0 (br_t (nI_le h1 h2) hp)
theorem sx_isList_o {post : Int32 → Prop} {c : Nat} {sC : Int32} {pA tA sA oA rA dA : Nat → Int32} {x : Nat} (hc : c ≤ 6) (h : x < c) (hp : post 1) : wpX_isList post (nI c, sC, pA, tA, sA, oA, rA, dA) (nI x) :=
  br_f (nI_pos (by omega)) (br_f (nI_ge h (by omega)) hp)
theorem sy_noVotes_b {post : Int32 → Prop} {c : Nat} {sC : Int32} {vA sA kA : Nat → Int32} {x : Int32} (h : x < 0 ∨ nI 1000 ≤ x) (hp : post 1) : wpY_noVotes post (nI c, sC, vA, sA, kA) x := by
  rcases ss_out (by decide) h with h0 | ⟨h0, j, h1, h2, rfl⟩
  · exact br_t h0 hp
  · exact br_f h0 (br_f (nI_ge (a := 999) (by omega) h2) hp)
theorem sy_noVotes_o {post : Int32 → Prop} {c : Nat} {sC : Int32} {vA sA kA : Nat → Int32} {x : Nat} (h : x < 1000) (hp : post 0) : wpY_noVotes post (nI c, sC, vA, sA, kA) (nI x) :=
  br_f (nI_pos (by omega)) (br_t (nI_le (a := x) (b := 999) (by omega) (by decide)) hp)
theorem sy_noRule_b {post : Int32 → Prop} {c : Nat} {sC : Int32} {vA sA kA : Nat → Int32} {x : Int32} (h : x < 0 ∨ nI 7 ≤ x) (hp : post 1) : wpY_noRule post (nI c, sC, vA, sA, kA) x := by
  rcases ss_out (by decide) h with h0 | ⟨h0, j, h1, h2, rfl⟩
  · exact br_t h0 hp
  · exact br_f h0 (br_f (nI_ge (a := 6) (by omega) h2) hp)
theorem sy_noRule_o {post : Int32 → Prop} {c : Nat} {sC : Int32} {vA sA kA : Nat → Int32} {x : Nat} (h : x < 7) (hp : post 0) : wpY_noRule post (nI c, sC, vA, sA, kA) (nI x) :=
  br_f (nI_pos (by omega)) (br_t (nI_le (a := x) (b := 6) (by omega) (by decide)) hp)
theorem sy_noList_b {post : Int32 → Prop} {c : Nat} {sC : Int32} {vA sA kA : Nat → Int32} {x : Int32} (hc : c ≤ 6) (h : x < 0 ∨ nI c ≤ x) (hp : post 1) : wpY_noList post (nI c, sC, vA, sA, kA) x := by
  rcases ss_out (by omega) h with h0 | ⟨h0, j, h1, h2, rfl⟩
  · exact br_t h0 hp
  · exact br_f h0 (br_f (nI_nlt h1 h2) hp)
theorem sy_noList_o {post : Int32 → Prop} {c : Nat} {sC : Int32} {vA sA kA : Nat → Int32} {x : Nat} (hc : c ≤ 6) (h : x < c) (hp : post 0) : wpY_noList post (nI c, sC, vA, sA, kA) (nI x) :=
  br_f (nI_pos (by omega)) (br_t (nI_lt h (by omega)) hp)
/-! the relation -/
def i_Rel (k : Nat) (u : SX) (v : SY) : Prop := ∃ (c s : Nat) (p : Nat → Nat) (tA sA oA rA dA yS yK : Nat → Int32), c ≤ 6 ∧ s ≤ 30 ∧ (∀ i, p i ≤ 999) ∧ u = (nI c, nI s, (fun i => nI (p i)), tA, sA, oA, rA, dA) ∧ v = (nI c, nI s, (fun i => nI (p i)), yS, yK)
theorem i_up {k : Nat} {u : SX} {v : SY} (h : i_Rel k u v) : i_Rel (k + 3) u v := h
theorem i_vc0 : wpX_init (fun u => wpY_init (fun v => i_Rel 0 u v)) :=
  ⟨0, 0, fun _ => 0, _, _, _, _, _, _, _, by decide, by decide, fun _ => Nat.zero_le _, rfl, rfl⟩
theorem ss_rel {k c s : Nat} {p : Nat → Nat} {tA sA oA rA dA yS yK : Nat → Int32} (hc : c ≤ 6) (hs : s ≤ 30) (hp : ∀ i, p i ≤ 999) : i_Rel k (nI c, nI s, (fun i => nI (p i)), tA, sA, oA, rA, dA) (nI c, nI s, (fun i => nI (p i)), yS, yK) :=
  ⟨c, s, p, tA, sA, oA, rA, dA, yS, yK, hc, hs, hp, rfl, rfl⟩
theorem ss_le_if {p : Nat → Nat} {j x : Nat} (hp : ∀ i, p i ≤ 999) (hx : x ≤ 999) : ∀ i, (if i = j then x else p i) ≤ 999 := fun i => by
  by_cases e : i = j
  · rw [if_pos e]; exact hx
  · rw [if_neg e]; exact hp i
theorem ss_shf {c : Nat} {p : Nat → Nat} : ss_sh c (fun i => nI (p i)) p := fun _ _ => rfl
theorem ss_up9 {p : Nat → Nat} {j x : Nat} (hj : j < 6) : upd (fun i => nI (p i)) (nI j).toNatClampNeg (nI x) = fun i => nI (if i = j then x else p i) := by
  rw [nI_clamp (by omega), ss_upd_f]
/-! list, vote, join, seats, bar, lists, votes -/
theorem i_vc_list {k : Nat} {u : SX} {v : SY} (I : i_Rel k u v) (hk : k + 3 ≤ 1536) (v1 : Int32) : wpX_list (fun r u' => wpY_list (fun r' v' => r' = r ∧ i_Rel (k + 3) u' v') v v1) u v1 := by
  obtain ⟨c, s, p, tA, sA, oA, rA, dA, yS, yK, hc, hs, hp, rfl, rfl⟩ := I
  rcases ss_ix v1 (n := 1000) (by decide) with h | ⟨x, hx, rfl⟩
  · unfold wpX_list wpY_list
    exact sx_isVotes_b h (br_t rfl (sy_noVotes_b h (br_f (by decide) ⟨rfl, ss_rel hc hs hp⟩)))
  · unfold wpX_list wpY_list
    refine sx_isVotes_o hx (br_f (by decide) (pk_lt c 6 (fun h6 => ⟨vp_in_nI h6 (by decide), nm_r (ss_up9 h6) (nm_r (nI_1 c) (sy_noVotes_o hx (br_t rfl (br_f (fun z => ?_) ⟨vp_in_nI h6 (by decide), nm_r (ss_up9 h6) (nm_r (nI_1 c) ⟨rfl, ss_rel (by omega) hs (ss_le_if hp (by omega))⟩)⟩))))⟩) (fun h6 => sy_noVotes_o hx (br_t rfl (br_t ?_ ⟨rfl, ss_rel hc hs hp⟩))) rfl rfl (by omega) (by decide)))
    · have := (nI_eq (b := 6) (by omega) (by decide)).mp z
      omega
    · have e : c = 6 := by omega
      rw [e]; rfl
theorem i_vc_vote {k : Nat} {u : SX} {v : SY} (I : i_Rel k u v) (hk : k + 3 ≤ 1536) (v1 : Int32) (v2 : Int32) : wpX_vote (fun r u' => wpY_vote (fun r' v' => r' = r ∧ i_Rel (k + 3) u' v') v v1 v2) u v1 v2 := by
  obtain ⟨c, s, p, tA, sA, oA, rA, dA, yS, yK, hc, hs, hp, rfl, rfl⟩ := I
  rcases ss_ix v1 (n := c) (by omega) with h | ⟨j, hj, rfl⟩
  · unfold wpX_vote wpY_vote
    exact sx_isList_b hc h (br_t rfl (sy_noList_b hc h (br_f (by decide) ⟨rfl, ss_rel hc hs hp⟩)))
  · unfold wpX_vote wpY_vote
    rcases ss_ix v2 (n := 1000) (by decide) with h | ⟨x, hx, rfl⟩
    · exact sx_isList_o hc hj (br_f (by decide) (sx_isVotes_b h (br_t rfl (sy_noList_o hc hj (br_t rfl (sy_noVotes_b h (br_f (by decide) ⟨rfl, ss_rel hc hs hp⟩)))))))
    · have ej : vp_in (nI j) 6 := vp_in_nI (by omega) (by decide)
      exact sx_isList_o hc hj (br_f (by decide) (sx_isVotes_o hx (br_f (by decide) ⟨ej, nm_e ⟨ej, nm_r (ss_up9 (by omega)) (sy_noList_o hc hj (br_t rfl (sy_noVotes_o hx (br_t rfl ⟨ej, nm_e ⟨ej, nm_r (ss_up9 (by omega)) ⟨rfl, ss_rel hc hs (ss_le_if hp (by omega))⟩⟩⟩))))⟩⟩)))
def ss_jn (p : Nat → Nat) (i j z : Nat) : Nat → Nat := fun k => if k = j then 0 else if k = i then z else p k
theorem ss_jn_le {p : Nat → Nat} {i j z : Nat} (hp : ∀ i, p i ≤ 999) (hz : z ≤ 999) (k : Nat) : ss_jn p i j z k ≤ 999 := ss_le_if (p := fun k => if k = i then z else p k) (ss_le_if hp hz) (Nat.zero_le _) k
theorem sx_j56 {post : Int32 → SX → Prop} {c : Nat} {sC : Int32} {p : Nat → Nat} {tA sA oA rA dA : Nat → Int32} {i j z : Nat} (hc : c ≤ 6) (hi : i < c) (hj : j < c) (hp : post (nI (ss_jn p i j z i)) (nI c, sC, (fun k => nI (ss_jn p i j z k)), tA, sA, oA, rA, dA)) : wX_join_56 post (nI i) (nI j) (nI z) (nI i) (nI c) sC (fun k => nI (p k)) tA sA oA rA dA := by
  have ei : vp_in (nI i) 6 := vp_in_nI (by omega) (by decide)
  have ej : vp_in (nI j) 6 := vp_in_nI (by omega) (by decide)
  refine ⟨ei, nm_r (ss_up9 (by omega)) ⟨ej, nm_r (ss_up9 (x := 0) (by omega)) ⟨ei, ?_⟩⟩⟩
  rw [nI_clamp (n := i) (by omega)]
  exact hp
theorem sy_j56 {post : Int32 → SY → Prop} {c : Nat} {sC : Int32} {p : Nat → Nat} {sA kA : Nat → Int32} {i j z : Nat} (hc : c ≤ 6) (hi : i < c) (hj : j < c) (hp : post (nI (ss_jn p i j z i)) (nI c, sC, (fun k => nI (ss_jn p i j z k)), sA, kA)) : wY_join_56 post (nI i) (nI j) (nI z) (nI i) (nI c) sC (fun k => nI (p k)) sA kA := by
  have ei : vp_in (nI i) 6 := vp_in_nI (by omega) (by decide)
  have ej : vp_in (nI j) 6 := vp_in_nI (by omega) (by decide)
  refine ⟨ei, nm_r (ss_up9 (by omega)) ⟨ej, nm_r (ss_up9 (x := 0) (by omega)) ⟨ei, ?_⟩⟩⟩
  rw [nI_clamp (n := i) (by omega)]
  exact hp
theorem i_vc_join {k : Nat} {u : SX} {v : SY} (I : i_Rel k u v) (hk : k + 3 ≤ 1536) (v1 : Int32) (v2 : Int32) : wpX_join (fun r u' => wpY_join (fun r' v' => r' = r ∧ i_Rel (k + 3) u' v') v v1 v2) u v1 v2 := by
  obtain ⟨c, s, p, tA, sA, oA, rA, dA, yS, yK, hc, hs, hp, rfl, rfl⟩ := I
  rcases ss_ix v1 (n := c) (by omega) with h | ⟨i, hi, rfl⟩
  · unfold wpX_join wpY_join
    exact sx_isList_b hc h (br_t rfl (sy_noList_b hc h (br_f (by decide) ⟨rfl, ss_rel hc hs hp⟩)))
  · unfold wpX_join wpY_join
    rcases ss_ix v2 (n := c) (by omega) with h | ⟨j, hj, rfl⟩
    · exact sx_isList_o hc hi (br_f (by decide) (sx_isList_b hc h (br_t rfl (sy_noList_o hc hi (br_t rfl (sy_noList_b hc h (br_f (by decide) ⟨rfl, ss_rel hc hs hp⟩)))))))
    · have ei : vp_in (nI i) 6 := vp_in_nI (by omega) (by decide)
      have ej : vp_in (nI j) 6 := vp_in_nI (by omega) (by decide)
      have hpi := hp i
      have hpj := hp j
      have es : (fun i => nI (p i)) (nI i).toNatClampNeg + (fun i => nI (p i)) (nI j).toNatClampNeg = nI (p i + p j) := by
        show nI (p (nI i).toNatClampNeg) + nI (p (nI j).toNatClampNeg) = _
        rw [nI_clamp (by omega), nI_clamp (by omega), nI_add]
      refine sx_isList_o hc hi (br_f (by decide) (sx_isList_o hc hj (br_f (by decide) (pk_eq i j (fun e => ?_) (fun e => ?_) rfl rfl (by omega) (by omega)))))
      · exact sy_noList_o hc hi (br_t rfl (sy_noList_o hc hj (br_t rfl (br_t (by rw [e]) ⟨rfl, ss_rel hc hs hp⟩))))
      · have ne : ¬ nI i = nI j := fun z => e ((nI_eq (by omega) (by omega)).mp z)
        refine ⟨ei, ej, nm_r es (pk_le (p i + p j) 999 (fun hz => sx_j56 hc hi hj ?_) (fun hz => sx_j56 (z := 999) hc hi hj ?_) rfl rfl (by omega) (by decide))⟩
        · exact sy_noList_o hc hi (br_t rfl (sy_noList_o hc hj (br_t rfl (br_f ne ⟨ei, ej, nm_r es (br_t (nI_le (b := 999) hz (by decide)) (sy_j56 hc hi hj ⟨rfl, ss_rel hc hs (ss_jn_le hp hz)⟩))⟩))))
        · exact sy_noList_o hc hi (br_t rfl (sy_noList_o hc hj (br_t rfl (br_f ne ⟨ei, ej, nm_r es (br_f (nI_ge (a := 999) hz (by omega)) (sy_j56 (z := 999) hc hi hj ⟨rfl, ss_rel hc hs (ss_jn_le hp (by omega))⟩))⟩))))
theorem i_vc_seats {k : Nat} {u : SX} {v : SY} (I : i_Rel k u v) (hk : k + 3 ≤ 1536) (v1 : Int32) : wpX_seats (fun r u' => wpY_seats (fun r' v' => r' = r ∧ i_Rel (k + 3) u' v') v v1) u v1 := by
  obtain ⟨c, s, p, tA, sA, oA, rA, dA, yS, yK, hc, hs, hp, rfl, rfl⟩ := I
  by_cases h0 : v1 < 0
  · exact br_t h0 (br_t h0 ⟨rfl, ss_rel hc hs hp⟩)
  · obtain ⟨x, hx, rfl⟩ := nI_of h0
    by_cases h30 : x ≤ 30
    · have h : nI x ≤ 30 := nI_le (b := 30) h30 (by decide)
      exact br_f h0 (br_t h (br_f h0 (br_t h ⟨rfl, ss_rel hc h30 hp⟩)))
    · have h : ¬ nI x ≤ 30 := nI_ge (a := 30) (by omega) hx
      exact br_f h0 (br_f h (br_f h0 (br_f h ⟨rfl, ss_rel hc hs hp⟩)))
theorem i_vc_lists {k : Nat} {u : SX} {v : SY} (I : i_Rel k u v) (hk : k + 3 ≤ 1536) : wpX_lists (fun r => wpY_lists (fun r' => r' = r ∧ i_Rel (k + 3) u v) v) u := by
  obtain ⟨c, s, p, tA, sA, oA, rA, dA, yS, yK, hc, hs, hp, rfl, rfl⟩ := I
  exact ⟨rfl, ss_rel hc hs hp⟩
theorem i_vc_votes {k : Nat} {u : SX} {v : SY} (I : i_Rel k u v) (hk : k + 3 ≤ 1536) : wpX_votes (fun r => wpY_votes (fun r' => r' = r ∧ i_Rel (k + 3) u v) v) u := by
  obtain ⟨c, s, p, tA, sA, oA, rA, dA, yS, yK, hc, hs, hp, rfl, rfl⟩ := I
  exact sx_sum_polled hc ss_shf (sy_votes hc ss_shf ⟨rfl, ss_rel hc hs hp⟩)
/-! bar -/
def ss_bar (p : Nat → Nat) (T i : Nat) : Nat → Nat := fun k => if k < i ∧ p k * 100 < T then 0 else p k
theorem ss_bar_le {p : Nat → Nat} {T i : Nat} (hp : ∀ i, p i ≤ 999) (k : Nat) : ss_bar p T i k ≤ 999 := by
  unfold ss_bar
  by_cases e : k < i ∧ p k * 100 < T
  · rw [if_pos e]; exact Nat.zero_le _
  · rw [if_neg e]; exact hp k
theorem ss_bar_0 {p : Nat → Nat} {T : Nat} : ss_bar p T 0 = p := by
  funext k
  exact if_neg (fun z => absurd z.1 (Nat.not_lt_zero k))
theorem ss_bar_i {p : Nat → Nat} {T i : Nat} : ss_bar p T i i = p i := if_neg (fun z => absurd z.1 (Nat.lt_irrefl i))
theorem ss_bar_k {p : Nat → Nat} {T i : Nat} (h : T ≤ p i * 100) : ss_bar p T (i + 1) = ss_bar p T i := by
  funext k
  unfold ss_bar
  by_cases e : k < i ∧ p k * 100 < T
  · rw [if_pos e, if_pos ⟨by omega, e.2⟩]
  · rw [if_neg e]
    refine if_neg (fun z => ?_)
    by_cases e2 : k = i
    · subst e2; omega
    · exact e ⟨by omega, z.2⟩
theorem ss_bar_z {p : Nat → Nat} {T i : Nat} (h : p i * 100 < T) : (fun k => nI (if k = i then 0 else ss_bar p T i k)) = fun k => nI (ss_bar p T (i + 1) k) := by
  funext k
  unfold ss_bar
  by_cases e2 : k = i
  · subst e2
    rw [if_pos rfl, if_pos ⟨by omega, h⟩]
  · rw [if_neg e2]
    by_cases e : k < i ∧ p k * 100 < T
    · rw [if_pos e, if_pos ⟨by omega, e.2⟩]
    · rw [if_neg e, if_neg (fun z => e ⟨by omega, z.2⟩)]
theorem ss_bar_c {p : Nat → Nat} {T i c : Nat} (h : i < c) : ss_bar p T (i + 1) i = ss_bar p T c i := by
  unfold ss_bar
  by_cases e : p i * 100 < T
  · rw [if_pos ⟨by omega, e⟩, if_pos ⟨h, e⟩]
  · rw [if_neg (fun z => e z.2), if_neg (fun z => e z.2)]
theorem sx_b23 {post : Int32 → SX → Prop} {c : Nat} {sC : Int32} {p : Nat → Nat} {tA sA oA rA dA : Nat → Int32} {b V : Nat} (hc : c ≤ 6) (hb : b * V < 2 ^ 31) (hv : ∀ i, p i ≤ 999) (hp : post (nI (ss_cnt (ss_A (ss_bar p (b * V) c)) c)) (nI c, sC, (fun k => nI (ss_bar p (b * V) c k)), tA, sA, oA, rA, dA)) : ∃ n, wX_bar_23 post (nI b) (nI V) (nI c) sC n 0 (fun k => nI (p k)) tA sA oA rA dA := by
  have e0 : (fun k => nI (p k)) = fun k => nI (ss_bar p (b * V) 0 k) := by rw [ss_bar_0]
  rw [e0]
  refine ss_loop (fun n i => wX_bar_23 post (nI b) (nI V) (nI c) sC n (nI i) (fun k => nI (ss_bar p (b * V) i k)) tA sA oA rA dA) c 0 (Nat.zero_le _)
    (fun n => br_t (nI_le (Nat.le_refl c) (by omega)) (sx_cnt_polled hc ss_shf (fun i _ => Nat.le_trans (ss_bar_le hv i) (by decide)) hp))
    (fun n i _ hi ih => ?_)
  have hvi := hv i
  have ei : vp_in (nI i) 6 := vp_in_nI (by omega) (by decide)
  refine br_f (nI_ge hi (by omega)) ⟨ei, pk_le (b * V) (p i * 100) (fun hz => nm_r (nI_1 i) ?_) (fun hz => ⟨ei, nm_r (e' := fun k => nI (ss_bar p (b * V) (i + 1) k)) ?_ (nm_r (nI_1 i) ih)⟩) (pk_mul b V) ?_ hb (by omega)⟩
  · rw [ss_bar_k hz] at ih; exact ih
  · exact (ss_up9 (x := 0) (by omega)).trans (ss_bar_z hz)
  · show nI (ss_bar p (b * V) i (nI i).toNatClampNeg) * nI 100 = _
    rw [nI_clamp (by omega), ss_bar_i, pk_mul]
theorem sy_b55 {post : Int32 → SY → Prop} {J : Int32 → Int32 → (Nat → Int32) → (Nat → Int32) → (Nat → Int32) → Prop} {c : Nat} {x1 x2 sC : Int32} {sA kA : Nat → Int32} {q : Nat → Nat} {m i : Nat} (hc : c ≤ 6) (hi : i < c) (hq : q i ≤ 999) (hJ : J (nI (m + if ss_A q i = true then 1 else 0)) (nI (i + 1)) (fun k => nI (q k)) sA kA) : wY_bar_55 post J x1 x2 (nI m) (nI i) (nI c) sC (fun k => nI (q k)) sA kA := by
  have ei : vp_in (nI i) 6 := vp_in_nI (by omega) (by decide)
  refine ⟨ei, pk_le (q i) 0 (fun hz => nm_r (nI_1 i) ?_) (fun hz => nm_r (nI_1 m) (nm_r (nI_1 i) ?_)) (ss_sh_at ss_shf hc hi) rfl (by omega) (by decide)⟩
  · rw [if_neg (by rw [show ss_A q i = false from decide_eq_false (by omega)]; decide)] at hJ; exact hJ
  · rw [if_pos (show ss_A q i = true from decide_eq_true hz)] at hJ; exact hJ
theorem sy_b22 {post : Int32 → SY → Prop} {c : Nat} {sC : Int32} {p : Nat → Nat} {sA kA : Nat → Int32} {b V : Nat} (hc : c ≤ 6) (hb : b * V < 2 ^ 31) (hv : ∀ i, p i ≤ 999) (hp : post (nI (ss_cnt (ss_A (ss_bar p (b * V) c)) c)) (nI c, sC, (fun k => nI (ss_bar p (b * V) c k)), sA, kA)) : ∃ n, wY_bar_22 post (nI b) (nI V) (nI c) sC n 0 0 (fun k => nI (p k)) sA kA := by
  have e0 : (fun k => nI (p k)) = fun k => nI (ss_bar p (b * V) 0 k) := by rw [ss_bar_0]
  rw [e0]
  refine ss_loop (fun n i => wY_bar_22 post (nI b) (nI V) (nI c) sC n (nI (ss_cnt (ss_A (ss_bar p (b * V) c)) i)) (nI i) (fun k => nI (ss_bar p (b * V) i k)) sA kA) c 0 (Nat.zero_le _)
    (fun n => br_t (nI_le (Nat.le_refl c) (by omega)) hp)
    (fun n i _ hi ih => ?_)
  have hvi := hv i
  have ei : vp_in (nI i) 6 := vp_in_nI (by omega) (by decide)
  have h55 : wY_bar_55 post (wY_bar_22 post (nI b) (nI V) (nI c) sC n) (nI b) (nI V) (nI (ss_cnt (ss_A (ss_bar p (b * V) c)) i)) (nI i) (nI c) sC (fun k => nI (ss_bar p (b * V) (i + 1) k)) sA kA := by
    refine sy_b55 hc hi (ss_bar_le hv i) ?_
    have e : ss_A (ss_bar p (b * V) (i + 1)) i = ss_A (ss_bar p (b * V) c) i := by
      show decide (0 < ss_bar p (b * V) (i + 1) i) = decide (0 < ss_bar p (b * V) c i)
      rw [ss_bar_c hi]
    rw [e]; exact ih
  refine br_f (nI_ge hi (by omega)) ⟨ei, pk_le (b * V) (p i * 100) (fun hz => ?_) (fun hz => ⟨ei, nm_r (e' := fun k => nI (ss_bar p (b * V) (i + 1) k)) ?_ h55⟩) (pk_mul b V) ?_ hb (by omega)⟩
  · rw [ss_bar_k hz] at h55; exact h55
  · exact (ss_up9 (x := 0) (by omega)).trans (ss_bar_z hz)
  · show nI 100 * nI (ss_bar p (b * V) i (nI i).toNatClampNeg) = _
    rw [nI_clamp (by omega), ss_bar_i, pk_mul, Nat.mul_comm]
theorem i_vc_bar {k : Nat} {u : SX} {v : SY} (I : i_Rel k u v) (hk : k + 3 ≤ 1536) (v1 : Int32) : wpX_bar (fun r u' => wpY_bar (fun r' v' => r' = r ∧ i_Rel (k + 3) u' v') v v1) u v1 := by
  obtain ⟨c, s, p, tA, sA, oA, rA, dA, yS, yK, hc, hs, hp, rfl, rfl⟩ := I
  by_cases h0 : v1 < 0
  · exact br_t h0 (br_t h0 ⟨rfl, ss_rel hc hs hp⟩)
  · obtain ⟨b, hb, rfl⟩ := nI_of h0
    by_cases h1 : b ≤ 100
    · have h : nI b ≤ 100 := nI_le (b := 100) h1 (by decide)
      have hsv := ss_sum_le (f := p) (c := c) (B := 999) (fun i _ => hp i)
      have hV2 : ss_sum p c ≤ 5994 := Nat.le_trans hsv (Nat.mul_le_mul hc (Nat.le_refl 999))
      have hbV : b * ss_sum p c ≤ 100 * 5994 := Nat.mul_le_mul h1 hV2
      exact br_f h0 (br_t h (sx_sum_polled hc ss_shf (sx_b23 hc (by omega) hp (br_f h0 (br_t h (sy_votes hc ss_shf (sy_b22 hc (by omega) hp ⟨rfl, ss_rel hc hs (ss_bar_le hp)⟩)))))))
    · have h : ¬ nI b ≤ 100 := nI_ge (a := 100) (by omega) hb
      exact br_f h0 (br_f h (br_f h0 (br_f h ⟨rfl, ss_rel hc hs hp⟩)))
end
section
/-! what the questions share -/
theorem ss_hv {c : Nat} {p : Nat → Nat} (hp : ∀ i, p i ≤ 999) : ∀ i, i < c → p i ≤ 2999 := fun i _ => Nat.le_trans (hp i) (by decide)
theorem sx_ps {post : SX → Prop} {c : Nat} {sC x : Int32} {p : Nat → Nat} {tA sA oA rA dA : Nat → Int32} {r N : Nat} (hc : c ≤ 6) (hr : r < 7) (hx : x = nI N) (hN : N ≤ 31) (hv : ∀ i, p i ≤ 999) (hp : ∀ sh rs od, ss_sh c sh (ss_S r c p N) → post (nI c, sC, (fun i => nI (p i)), tA, sh, oA, rs, od)) : wpX_shareOut__polled_shares post (nI c, sC, (fun i => nI (p i)), tA, sA, oA, rA, dA) (nI r) x := by
  rw [hx]; exact sx_out_polled_shares hc (by omega) hN ss_shf (ss_hv hv) hp
theorem sx_po {post : SX → Prop} {c : Nat} {sC x : Int32} {p : Nat → Nat} {tA sA oA rA dA : Nat → Int32} {r N : Nat} (hc : c ≤ 6) (hr : r < 7) (hx : x = nI N) (hN : N ≤ 31) (hv : ∀ i, p i ≤ 999) (hp : ∀ ot rs od, ss_sh c ot (ss_S r c p N) → post (nI c, sC, (fun i => nI (p i)), tA, sA, ot, rs, od)) : wpX_shareOut__polled_otherShares post (nI c, sC, (fun i => nI (p i)), tA, sA, oA, rA, dA) (nI r) x := by
  rw [hx]; exact sx_out_polled_otherShares hc (by omega) hN ss_shf (ss_hv hv) hp
theorem sy_gv {post : SY → Prop} {c : Nat} {sC x : Int32} {p : Nat → Nat} {sA kA : Nat → Int32} {r N : Nat} (hc : c ≤ 6) (hr : r < 7) (hx : x = nI N) (hN : N ≤ 31) (hv : ∀ i, p i ≤ 2999) (hp : ∀ sh, ss_sh c sh (ss_S r c p N) → post (nI c, sC, (fun i => nI (p i)), sh, kA)) : wpY_give post (nI c, sC, (fun i => nI (p i)), sA, kA) (nI r) x := by
  rw [hx]; exact sy_give hc (by omega) hN ss_shf (fun i _ => hv i) hp
theorem ss_h9 {p : Nat → Nat} (hp : ∀ i, p i ≤ 999) : ∀ i, p i ≤ 2999 := fun i => Nat.le_trans (hp i) (by decide)
theorem ss_S_62 {r c n i : Nat} {v : Nat → Nat} (hn : n ≤ 31) (hi : i < c) : ss_S r c v n i ≤ 62 := by
  have := ss_S_le (rule := r) (c := c) (n := n) (v := v) hi
  omega
theorem ss_q57 {x : Int32} (h : x < 0 ∨ nI 5 ≤ x) : (x < 0 ∨ nI 7 ≤ x) ∨ ∃ r, r < 7 ∧ 5 ≤ r ∧ x = nI r := by
  rcases ss_ix x (n := 7) (by decide) with h7 | ⟨r, hr, rfl⟩
  · exact Or.inl h7
  · refine Or.inr ⟨r, hr, ?_, rfl⟩
    cases h with
    | inl h => exact absurd h (nI_pos (by omega))
    | inr h => exact (nI_leI (by decide) (by omega)).mp h
theorem ss_least (P : Nat → Prop) : ∀ d a, ∃ e, a ≤ e ∧ e ≤ a + d ∧ (∀ n, a ≤ n → n < e → ¬ P n) ∧ (e < a + d → P e) := by
  intro d
  induction d with
  | zero => intro a; exact ⟨a, Nat.le_refl _, Nat.le_refl _, fun n h1 h2 => by omega, fun h => by omega⟩
  | succ d ih =>
    intro a
    by_cases h : P a
    · exact ⟨a, Nat.le_refl _, by omega, fun n h1 h2 => by omega, fun _ => h⟩
    · obtain ⟨e, h1, h2, h3, h4⟩ := ih (a + 1)
      refine ⟨e, by omega, by omega, fun n hn hne => ?_, fun hh => h4 (by omega)⟩
      by_cases e2 : n = a
      · rw [e2]; exact h
      · exact h3 n (by omega) hne
/-! share -/
theorem i_vc_share {k : Nat} {u : SX} {v : SY} (I : i_Rel k u v) (hk : k + 3 ≤ 1536) (v1 : Int32) (v2 : Int32) : wpX_share (fun r u' => wpY_share (fun r' v' => r' = r ∧ i_Rel (k + 3) u' v') v v1 v2) u v1 v2 := by
  obtain ⟨c, s, p, tA, sA, oA, rA, dA, yS, yK, hc, hs, hp, rfl, rfl⟩ := I
  unfold wpX_share wpY_share
  rcases ss_ix v1 (n := 7) (by decide) with h | ⟨r, hr, rfl⟩
  · exact sx_isRule_b h (br_t rfl (sy_noRule_b h (br_f (by decide) ⟨rfl, ss_rel hc hs hp⟩)))
  · rcases ss_ix v2 (n := c) (by omega) with h | ⟨i, hi, rfl⟩
    · exact sx_isRule_o hr (br_f (by decide) (sx_isList_b hc h (br_t rfl (sy_noRule_o hr (br_t rfl (sy_noList_b hc h (br_f (by decide) ⟨rfl, ss_rel hc hs hp⟩)))))))
    · have ei : vp_in (nI i) 6 := vp_in_nI (by omega) (by decide)
      exact sx_isRule_o hr (br_f (by decide) (sx_isList_o hc hi (br_f (by decide) (sx_ps hc hr rfl (by omega) hp (fun sh rs od hsh => ⟨ei, sy_noRule_o hr (br_t rfl (sy_noList_o hc hi (br_t rfl (sy_gv hc hr rfl (by omega) (ss_h9 hp) (fun sh' hsh' => ⟨ei, by rw [ss_sh_at hsh hc hi, ss_sh_at hsh' hc hi], ss_rel hc hs hp⟩)))))⟩)))))
/-! next -/
theorem sy_n41 {post : Int32 → SY → Prop} {c : Nat} {sC : Int32} {vA sA kA : Nat → Int32} {g g' : Nat → Nat} {o : Option Nat} (hc : c ≤ 6) (hs : ss_sh c sA g') (hk : ss_sh c kA g) (hg : ∀ i, i < c → g i ≤ 62) (hg' : ∀ i, i < c → g' i ≤ 62) (ho : ∀ i, i < c → (g i < g' i ↔ o = some i)) (hb : ∀ b, o = some b → b < c) (hp : post (ss_cd (-4) o) (nI c, sC, vA, sA, kA)) : ∃ n, wY_next_41 post (nI c) sC vA sA kA n 0 := by
  have st : ∀ n i, i < c → ¬ o = some i → wY_next_41 post (nI c) sC vA sA kA n (nI (i + 1)) → wY_next_41 post (nI c) sC vA sA kA (n + 1) (nI i) := fun n i hi hne ih => by
    have ei : vp_in (nI i) 6 := vp_in_nI (by omega) (by decide)
    have b1 := hg i hi
    have b2 := hg' i hi
    exact br_f (nI_ge hi (by omega)) ⟨ei, ei, pk_le (g' i) (g i) (fun _ => nm_r (nI_1 i) ih) (fun z => absurd ((ho i hi).mp z) hne) (ss_sh_at hs hc hi) (ss_sh_at hk hc hi) (by omega) (by omega)⟩
  cases o with
  | none =>
    exact ss_loop (fun n i => wY_next_41 post (nI c) sC vA sA kA n (nI i)) c 0 (Nat.zero_le _) (fun n => br_t (nI_le (Nat.le_refl c) (by omega)) hp) (fun n i _ hi ih => st n i hi (fun z => nomatch z) ih)
  | some b =>
    have hbc := hb b rfl
    have b1 := hg b hbc
    have b2 := hg' b hbc
    have eb : vp_in (nI b) 6 := vp_in_nI (by omega) (by decide)
    exact ss_loop (fun n i => wY_next_41 post (nI c) sC vA sA kA n (nI i)) b 0 (Nat.zero_le _) (fun n => br_f (nI_ge hbc (by omega)) ⟨eb, eb, pk_le (g' b) (g b) (fun z => absurd ((ho b hbc).mpr rfl) (by omega)) (fun z => hp) (ss_sh_at hs hc hbc) (ss_sh_at hk hc hbc) (by omega) (by omega)⟩) (fun n i _ hi ih => st n i (by omega) (fun z => by have := Option.some.inj z; omega) ih)
theorem i_vc_next {k : Nat} {u : SX} {v : SY} (I : i_Rel k u v) (hk : k + 3 ≤ 1536) (v1 : Int32) : wpX_next (fun r u' => wpY_next (fun r' v' => r' = r ∧ i_Rel (k + 3) u' v') v v1) u v1 := by
  obtain ⟨c, s, p, tA, sA, oA, rA, dA, yS, yK, hc, hs, hp, rfl, rfl⟩ := I
  unfold wpX_next wpY_next
  rcases ss_ix v1 (n := 5) (by decide) with h | ⟨r, hr, rfl⟩
  · refine sx_isQuotientRule_b h (br_t rfl ?_)
    rcases ss_q57 h with h7 | ⟨r, hr, h5, rfl⟩
    · exact sy_noRule_b h7 (br_f (by decide) ⟨rfl, ss_rel hc hs hp⟩)
    · exact sy_noRule_o hr (br_t rfl (br_f (nI_ge (a := 4) (by omega) (by omega)) ⟨rfl, ss_rel hc hs hp⟩))
  · have eq5 : ∀ n, ss_S r c p n = ss_q r c p n := fun n => ss_S_q hr
    have key : ∀ i, i < c → (ss_S r c p s i < ss_S r c p (s + 1) i ↔ ss_pick r p (ss_S r c p s) c = some i) := fun i hi => by
      rw [eq5, eq5]
      cases hq : ss_pick r p (ss_q r c p s) c with
      | none => exact ⟨fun z => absurd z (ss_next_none hq i), fun z => nomatch z⟩
      | some b => exact (ss_next_some hq i).trans ⟨fun z => by rw [z], fun z => (Option.some.inj z).symm⟩
    have hlt : ∀ b, ss_pick r p (ss_S r c p s) c = some b → b < c := fun b hb => (ss_pick_lt c b hb).1
    have hS : ∀ i, i < c → ss_S r c p s i ≤ 31 := fun i _ => by
      rw [eq5]; exact Nat.le_trans (ss_q_le s i) (by omega)
    exact sx_isQuotientRule_o hr (br_f (by decide) (sx_ps hc (by omega) rfl (by omega) hp (fun sh rs od hsh => sx_gq_polled_shares hc (by omega) ss_shf (ss_hv hp) hsh hS (sy_noRule_o (by omega) (br_t rfl (br_t (nI_le (b := 4) (by omega) (by decide)) (sy_gv hc (by omega) rfl (by omega) (ss_h9 hp) (fun sh' hsh' => sy_keep hc hsh' (fun kp hkp => sy_gv hc (by omega) (nI_1 s) (by omega) (ss_h9 hp) (fun sh2 hsh2 => sy_n41 hc hsh2 hkp (fun i hi => ss_S_62 (by omega) hi) (fun i hi => ss_S_62 (by omega) hi) key hlt ⟨rfl, ss_rel hc hs hp⟩))))))))))
/-! outside -/
def ss_od (s : Nat) (p : Nat → Nat) (V : Nat) (g : Nat → Nat) : Nat → Bool := fun i => decide (g i < s * p i / V ∨ (s * p i + V - 1) / V < g i)
theorem sx_o47 {post : Int32 → SX → Prop} {c s V : Nat} {p g : Nat → Nat} {tA sA oA rA dA : Nat → Int32} (hc : c ≤ 6) (hs : s ≤ 30) (hV : 0 < V) (hV2 : V ≤ 5994) (hv : ∀ i, p i ≤ 999) (hsh : ss_sh c sA g) (hg : ∀ i, i < c → g i ≤ 62) (hp : post (nI (ss_cnt (ss_od s p V g) c)) (nI c, nI s, (fun i => nI (p i)), tA, sA, oA, rA, dA)) : ∃ n, wX_outside_47 post (nI V) (nI c) (nI s) (fun i => nI (p i)) tA sA oA rA dA n 0 0 := by
  refine pk_loop (σ := Int32) (fun n i x => wX_outside_47 post (nI V) (nI c) (nI s) (fun i => nI (p i)) tA sA oA rA dA n x (nI i)) (fun i x => x = nI (ss_cnt (ss_od s p V g) i)) c 0 (nI 0) (Nat.zero_le _) rfl
    (fun n x hx => br_t (nI_le (Nat.le_refl c) (by omega)) (by rw [hx]; exact hp))
    (fun n i x hi hx k => ?_)
  have ei : vp_in (nI i) 6 := vp_in_nI (by omega) (by decide)
  have hne : ¬ nI V = 0 := nI_ne0 hV (by omega)
  have b1 := hg i hi
  have b2 : s * p i ≤ 30 * 999 := Nat.mul_le_mul hs (hv i)
  have b3 := Nat.div_le_self (s * p i) V
  have b4 := Nat.div_le_self (s * p i + V - 1) V
  have e1 : nI s * (fun i => nI (p i)) (nI i).toNatClampNeg = nI (s * p i) := by
    show nI s * nI (p (nI i).toNatClampNeg) = _
    rw [nI_clamp (by omega), pk_mul]
  have e2 : (nI (s * p i) + nI V - 1) / nI V = nI ((s * p i + V - 1) / V) := by
    rw [nI_add, show s * p i + V = (s * p i + V - 1) + 1 from by omega, nI_pred, pk_div (by omega) hV (by omega)]
    rfl
  have hin : ∀ z, (g i < s * p i / V ∨ (s * p i + V - 1) / V < g i) → z = x + 1 → z = nI (ss_cnt (ss_od s p V g) (i + 1)) := fun z hz ez => by
    rw [ez, hx, nI_1, ss_cnt_t (decide_eq_true hz)]
  refine br_f (nI_ge hi (by omega)) ⟨ei, nm_r e1 ⟨hne, nm_r (pk_div (by omega) hV (by omega)) ⟨hne, nm_r e2 ⟨ei, pk_lt (g i) (s * p i / V) (fun z => nm_e (nm_r (nI_1 i) (k (x + 1) (hin _ (Or.inl z) rfl)))) (fun z => ⟨ei, pk_le (g i) ((s * p i + V - 1) / V) (fun z2 => nm_r (nI_1 i) (k x ?_)) (fun z2 => nm_e (nm_r (nI_1 i) (k (x + 1) (hin _ (Or.inr z2) rfl)))) (ss_sh_at hsh hc hi) rfl (by omega) (by omega)⟩) (ss_sh_at hsh hc hi) rfl (by omega) (by omega)⟩⟩⟩⟩
  rw [hx, ss_cnt_f (decide_eq_false (by omega))]
theorem sy_o35 {post : Int32 → SY → Prop} {c s V : Nat} {p g : Nat → Nat} {sA kA : Nat → Int32} (hc : c ≤ 6) (hs : s ≤ 30) (hV : 0 < V) (hV2 : V ≤ 5994) (hv : ∀ i, p i ≤ 999) (hsh : ss_sh c sA g) (hg : ∀ i, i < c → g i ≤ 62) (hp : post (nI (ss_cnt (ss_od s p V g) c)) (nI c, nI s, (fun i => nI (p i)), sA, kA)) : ∃ n, wY_outside_35 post (nI V) (nI c) (nI s) (fun i => nI (p i)) sA kA n 0 0 := by
  refine pk_loop (σ := Int32) (fun n i x => wY_outside_35 post (nI V) (nI c) (nI s) (fun i => nI (p i)) sA kA n x (nI i)) (fun i x => x = nI (ss_cnt (ss_od s p V g) i)) c 0 (nI 0) (Nat.zero_le _) rfl
    (fun n x hx => br_t (nI_le (Nat.le_refl c) (by omega)) (by rw [hx]; exact hp))
    (fun n i x hi hx k => ?_)
  have ei : vp_in (nI i) 6 := vp_in_nI (by omega) (by decide)
  have hne : ¬ nI V = 0 := nI_ne0 hV (by omega)
  have b1 := hg i hi
  have b2 : s * p i ≤ 30 * 999 := Nat.mul_le_mul hs (hv i)
  have b3 := Nat.div_le_self (s * p i) V
  have b4 := Nat.div_le_self (s * p i + V - 1) V
  have e1 : nI s * (fun i => nI (p i)) (nI i).toNatClampNeg = nI (s * p i) := by
    show nI s * nI (p (nI i).toNatClampNeg) = _
    rw [nI_clamp (by omega), pk_mul]
  have e3 : nI s * (fun i => nI (p i)) (nI i).toNatClampNeg / nI V = nI (s * p i / V) := by
    rw [e1, pk_div (by omega) hV (by omega)]
  have e2 : (nI s * (fun i => nI (p i)) (nI i).toNatClampNeg + nI V - 1) / nI V = nI ((s * p i + V - 1) / V) := by
    rw [e1, nI_add, show s * p i + V = (s * p i + V - 1) + 1 from by omega, nI_pred, pk_div (by omega) hV (by omega)]
    rfl
  have hin : ∀ z, (g i < s * p i / V ∨ (s * p i + V - 1) / V < g i) → z = x + 1 → z = nI (ss_cnt (ss_od s p V g) (i + 1)) := fun z hz ez => by
    rw [ez, hx, nI_1, ss_cnt_t (decide_eq_true hz)]
  refine br_f (nI_ge hi (by omega)) ⟨ei, hne, nm_r e3 ⟨ei, hne, nm_r e2 ⟨ei, pk_lt (g i) (s * p i / V) (fun z => nm_e (nm_r (nI_1 i) (k (x + 1) (hin _ (Or.inl z) rfl)))) (fun z => ⟨ei, pk_le (g i) ((s * p i + V - 1) / V) (fun z2 => nm_r (nI_1 i) (k x ?_)) (fun z2 => nm_e (nm_r (nI_1 i) (k (x + 1) (hin _ (Or.inr z2) rfl)))) (ss_sh_at hsh hc hi) rfl (by omega) (by omega)⟩) (ss_sh_at hsh hc hi) rfl (by omega) (by omega)⟩⟩⟩
  rw [hx, ss_cnt_f (decide_eq_false (by omega))]
theorem i_vc_outside {k : Nat} {u : SX} {v : SY} (I : i_Rel k u v) (hk : k + 3 ≤ 1536) (v1 : Int32) : wpX_outside (fun r u' => wpY_outside (fun r' v' => r' = r ∧ i_Rel (k + 3) u' v') v v1) u v1 := by
  obtain ⟨c, s, p, tA, sA, oA, rA, dA, yS, yK, hc, hs, hp, rfl, rfl⟩ := I
  unfold wpX_outside wpY_outside
  rcases ss_ix v1 (n := 7) (by decide) with h | ⟨r, hr, rfl⟩
  · exact sx_isRule_b h (br_t rfl (sy_noRule_b h (br_f (by decide) ⟨rfl, ss_rel hc hs hp⟩)))
  · have hsv := ss_sum_le (f := p) (c := c) (B := 999) (fun i _ => hp i)
    have hV2 : ss_sum p c ≤ 5994 := Nat.le_trans hsv (Nat.mul_le_mul hc (Nat.le_refl 999))
    refine sx_isRule_o hr (br_f (by decide) (sx_sum_polled hc ss_shf (pk_eq (ss_sum p c) 0 (fun hz => ?_) (fun hz => ?_) rfl rfl (by omega) (by decide))))
    · exact sy_noRule_o hr (br_t rfl (sy_votes hc ss_shf (br_t (by rw [hz]; rfl) ⟨rfl, ss_rel hc hs hp⟩)))
    · exact sx_ps hc hr rfl (by omega) hp (fun sh rs od hsh => sx_o47 hc hs (by omega) hV2 hp hsh (fun i hi => ss_S_62 (by omega) hi) (sy_noRule_o hr (br_t rfl (sy_votes hc ss_shf (br_f (nI_ne0 (by omega) (by omega)) (sy_gv hc hr rfl (by omega) (ss_h9 hp) (fun sh' hsh' => sy_o35 hc hs (by omega) hV2 hp hsh' (fun i hi => ss_S_62 (by omega) hi) ⟨rfl, ss_rel hc hs hp⟩)))))))
/-! gains -/
theorem ss_gain_lt {a b : Nat → Nat} {c : Nat} (hc : c ≤ 6) (hb : ∀ i, i < c → b i ≤ 62) : ss_gain a b c ≤ 372 := by
  have h := ss_sum_le (f := fun i => b i - a i) (c := c) (B := 62) (fun i hi => by
    have := hb i hi
    show b i - a i ≤ 62
    omega)
  exact Nat.le_trans h (Nat.mul_le_mul hc (Nat.le_refl 62))
theorem ss_gain_s {a b : Nat → Nat} {i : Nat} : ss_gain a b (i + 1) = ss_gain a b i + (b i - a i) := rfl
theorem sx_gain_shares {post : Int32 → Prop} {c : Nat} {sC : Int32} {pA tA sA oA rA dA : Nat → Int32} {g g' : Nat → Nat} (hc : c ≤ 6) (h : ss_sh c sA g) (h' : ss_sh c oA g') (hg : ∀ i, i < c → g i ≤ 62) (hg' : ∀ i, i < c → g' i ≤ 62) (hp : post (nI (ss_gain g g' c))) : wpX_sumOfGains__shares_otherShares post (nI c, sC, pA, tA, sA, oA, rA, dA) := by
  refine pk_loop (σ := Int32) (fun n i x => wX_sumOfGains__shares_otherShares_5 post (nI c) sC pA tA sA oA rA dA n x (nI i)) (fun i x => x = nI (ss_gain g g' i)) c 0 (nI 0) (Nat.zero_le _) rfl
    (fun n x hx => br_t (nI_le (Nat.le_refl c) (by omega)) (by rw [hx]; exact hp))
    (fun n i x hi hx k => ?_)
  have ei : vp_in (nI i) 6 := vp_in_nI (by omega) (by decide)
  have b1 := hg i hi
  have b2 := hg' i hi
  refine br_f (nI_ge hi (by omega)) ⟨ei, ei, pk_le (g' i) (g i) (fun z => nm_r (nI_1 i) (k x ?_)) (fun z => ⟨ei, ei, nm_e (nm_r (nI_1 i) (k _ ?_))⟩) (ss_sh_at h' hc hi) (ss_sh_at h hc hi) (by omega) (by omega)⟩
  · rw [hx, ss_gain_s, show g' i - g i = 0 from by omega]; rfl
  · rw [hx, ss_sh_at h' hc hi, ss_sh_at h hc hi, pk_sub (by omega), nI_add, ss_gain_s]
theorem sx_gain_otherShares {post : Int32 → Prop} {c : Nat} {sC : Int32} {pA tA sA oA rA dA : Nat → Int32} {g g' : Nat → Nat} (hc : c ≤ 6) (h : ss_sh c oA g) (h' : ss_sh c sA g') (hg : ∀ i, i < c → g i ≤ 62) (hg' : ∀ i, i < c → g' i ≤ 62) (hp : post (nI (ss_gain g g' c))) : wpX_sumOfGains__otherShares_shares post (nI c, sC, pA, tA, sA, oA, rA, dA) := by
  refine pk_loop (σ := Int32) (fun n i x => wX_sumOfGains__otherShares_shares_5 post (nI c) sC pA tA sA oA rA dA n x (nI i)) (fun i x => x = nI (ss_gain g g' i)) c 0 (nI 0) (Nat.zero_le _) rfl
    (fun n x hx => br_t (nI_le (Nat.le_refl c) (by omega)) (by rw [hx]; exact hp))
    (fun n i x hi hx k => ?_)
  have ei : vp_in (nI i) 6 := vp_in_nI (by omega) (by decide)
  have b1 := hg i hi
  have b2 := hg' i hi
  refine br_f (nI_ge hi (by omega)) ⟨ei, ei, pk_le (g' i) (g i) (fun z => nm_r (nI_1 i) (k x ?_)) (fun z => ⟨ei, ei, nm_e (nm_r (nI_1 i) (k _ ?_))⟩) (ss_sh_at h' hc hi) (ss_sh_at h hc hi) (by omega) (by omega)⟩
  · rw [hx, ss_gain_s, show g' i - g i = 0 from by omega]; rfl
  · rw [hx, ss_sh_at h' hc hi, ss_sh_at h hc hi, pk_sub (by omega), nI_add, ss_gain_s]
theorem sy_m45 {post : Int32 → SY → Prop} {c : Nat} {sC : Int32} {vA sA kA : Nat → Int32} {g g' : Nat → Nat} (hc : c ≤ 6) (h : ss_sh c kA g) (h' : ss_sh c sA g') (hg : ∀ i, i < c → g i ≤ 62) (hg' : ∀ i, i < c → g' i ≤ 62) (hp : post (nI (ss_gain g g' c)) (nI c, sC, vA, sA, kA)) : ∃ n, wY_moved_45 post (nI c) sC vA sA kA n 0 0 := by
  refine pk_loop (σ := Int32) (fun n i x => wY_moved_45 post (nI c) sC vA sA kA n x (nI i)) (fun i x => x = nI (ss_gain g g' i)) c 0 (nI 0) (Nat.zero_le _) rfl
    (fun n x hx => br_t (nI_le (Nat.le_refl c) (by omega)) (by rw [hx]; exact hp))
    (fun n i x hi hx k => ?_)
  have ei : vp_in (nI i) 6 := vp_in_nI (by omega) (by decide)
  have b1 := hg i hi
  have b2 := hg' i hi
  refine br_f (nI_ge hi (by omega)) ⟨ei, ei, pk_le (g' i) (g i) (fun z => nm_r (nI_1 i) (k x ?_)) (fun z => ⟨ei, ei, nm_e (nm_r (nI_1 i) (k _ ?_))⟩) (ss_sh_at h' hc hi) (ss_sh_at h hc hi) (by omega) (by omega)⟩
  · rw [hx, ss_gain_s, show g' i - g i = 0 from by omega]; rfl
  · rw [hx, ss_sh_at h' hc hi, ss_sh_at h hc hi, pk_sub (by omega), nI_add, ss_gain_s]
theorem i_vc_moved {k : Nat} {u : SX} {v : SY} (I : i_Rel k u v) (hk : k + 3 ≤ 1536) (v1 : Int32) (v2 : Int32) : wpX_moved (fun r u' => wpY_moved (fun r' v' => r' = r ∧ i_Rel (k + 3) u' v') v v1 v2) u v1 v2 := by
  obtain ⟨c, s, p, tA, sA, oA, rA, dA, yS, yK, hc, hs, hp, rfl, rfl⟩ := I
  unfold wpX_moved wpY_moved
  rcases ss_ix v1 (n := 7) (by decide) with h | ⟨r, hr, rfl⟩
  · exact sx_isRule_b h (br_t rfl (sy_noRule_b h (br_f (by decide) ⟨rfl, ss_rel hc hs hp⟩)))
  · rcases ss_ix v2 (n := 7) (by decide) with h | ⟨q, hq, rfl⟩
    · exact sx_isRule_o hr (br_f (by decide) (sx_isRule_b h (br_t rfl (sy_noRule_o hr (br_t rfl (sy_noRule_b h (br_f (by decide) ⟨rfl, ss_rel hc hs hp⟩)))))))
    · exact sx_isRule_o hr (br_f (by decide) (sx_isRule_o hq (br_f (by decide) (sx_ps hc hr rfl (by omega) hp (fun sh rs od hsh => sx_po hc hq rfl (by omega) hp (fun ot rs' od' hot => sx_gain_shares hc hsh hot (fun i hi => ss_S_62 (by omega) hi) (fun i hi => ss_S_62 (by omega) hi) (sy_noRule_o hr (br_t rfl (sy_noRule_o hq (br_t rfl (sy_gv hc hr rfl (by omega) (ss_h9 hp) (fun sh' hsh' => sy_keep hc hsh' (fun kp hkp => sy_gv hc hq rfl (by omega) (ss_h9 hp) (fun sh2 hsh2 => sy_m45 hc hkp hsh2 (fun i hi => ss_S_62 (by omega) hi) (fun i hi => ss_S_62 (by omega) hi) ⟨rfl, ss_rel hc hs hp⟩))))))))))))))
/-! fall -/
def ss_fg (r c : Nat) (p : Nat → Nat) (n : Nat) : Nat := ss_gain (ss_S r c p (n + 1)) (ss_S r c p n) c
theorem sx_fst {post : Int32 → SX → Prop} {c : Nat} {sC : Int32} {p : Nat → Nat} {tA sA oA rA dA : Nat → Int32} {r n i : Nat} (hc : c ≤ 6) (hr : r < 7) (hv : ∀ i, p i ≤ 999) (hi : i < 30) (h0 : ss_fg r c p i = 0 → ∀ sh ot rs od, wX_fall_15 post (nI r) n (nI (i + 1)) (nI c) sC (fun i => nI (p i)) tA sh ot rs od) (h1 : 0 < ss_fg r c p i → ∀ sh ot rs od, post (nI i) (nI c, sC, (fun i => nI (p i)), tA, sh, ot, rs, od)) : wX_fall_15 post (nI r) (n + 1) (nI i) (nI c) sC (fun i => nI (p i)) tA sA oA rA dA := by
  have hb : ss_fg r c p i ≤ 372 := ss_gain_lt hc (fun j hj => ss_S_62 (by omega) hj)
  exact br_f (nI_ge (b := 30) hi (by decide)) (sx_ps hc hr rfl (by omega) hv (fun sh rs od hsh => sx_po hc hr (nI_1 i) (by omega) hv (fun ot rs' od' hot => sx_gain_otherShares hc hot hsh (fun j hj => ss_S_62 (by omega) hj) (fun j hj => ss_S_62 (by omega) hj) (pk_le (ss_fg r c p i) 0 (fun z => nm_r (nI_1 i) (h0 (by omega) _ _ _ _)) (fun z => h1 z _ _ _ _) rfl rfl (by omega) (by decide)))))
theorem sy_f41 {post : Int32 → SY → Prop} {J : Int32 → Int32 → Int32 → (Nat → Int32) → (Nat → Int32) → (Nat → Int32) → Prop} {c : Nat} {x1 sC : Int32} {vA sA kA : Nat → Int32} {g g' : Nat → Nat} {m : Nat} (hc : c ≤ 6) (h : ss_sh c kA g) (h' : ss_sh c sA g') (hg : ∀ i, i < c → g i ≤ 62) (hg' : ∀ i, i < c → g' i ≤ 62) (h0 : ss_gain g' g c = 0 → J (nI (m + 1)) (nI c) sC vA sA kA) (h1 : 0 < ss_gain g' g c → post (nI m) (nI c, sC, vA, sA, kA)) : ∃ n, wY_fall_41 post J x1 (nI m) (nI c) sC vA sA kA n 0 := by
  obtain ⟨e, _, he, hno, hyes⟩ := ss_least (fun i => g' i < g i) c 0
  rw [Nat.zero_add] at he hyes
  refine ss_loop (fun n i => wY_fall_41 post J x1 (nI m) (nI c) sC vA sA kA n (nI i)) e 0 (Nat.zero_le _) (fun n => ?_) (fun n i _ hi ih => ?_)
  · by_cases ec : e = c
    · subst ec
      refine br_t (nI_le (Nat.le_refl e) (by omega)) (nm_r (nI_1 m) (h0 ?_))
      cases hz : ss_gain g' g e with
      | zero => rfl
      | succ z =>
        obtain ⟨j, hj, hl⟩ := ss_gain_pos.mp (show 0 < ss_gain g' g e by omega)
        exact absurd hl (hno j (Nat.zero_le _) hj)
    · have hec : e < c := by omega
      have hl := hyes hec
      have ee : vp_in (nI e) 6 := vp_in_nI (by omega) (by decide)
      have b1 := hg e hec
      have b2 := hg' e hec
      exact br_f (nI_ge hec (by omega)) ⟨ee, ee, pk_le (g e) (g' e) (fun z => absurd hl (by omega)) (fun z => h1 (ss_gain_pos.mpr ⟨e, hec, hl⟩)) (ss_sh_at h hc hec) (ss_sh_at h' hc hec) (by omega) (by omega)⟩
  · have hic : i < c := by omega
    have ei : vp_in (nI i) 6 := vp_in_nI (by omega) (by decide)
    have b1 := hg i hic
    have b2 := hg' i hic
    exact br_f (nI_ge hic (by omega)) ⟨ei, ei, pk_le (g i) (g' i) (fun _ => nm_r (nI_1 i) ih) (fun z => absurd z (hno i (Nat.zero_le _) hi)) (ss_sh_at h hc hic) (ss_sh_at h' hc hic) (by omega) (by omega)⟩
theorem sy_fst {post : Int32 → SY → Prop} {c : Nat} {sC : Int32} {p : Nat → Nat} {sA kA : Nat → Int32} {r n i : Nat} (hc : c ≤ 6) (hr : r < 7) (hv : ∀ i, p i ≤ 999) (hi : i < 30) (h0 : ss_fg r c p i = 0 → ∀ sh kp, wY_fall_15 post (nI r) n (nI (i + 1)) (nI c) sC (fun i => nI (p i)) sh kp) (h1 : 0 < ss_fg r c p i → ∀ sh kp, post (nI i) (nI c, sC, (fun i => nI (p i)), sh, kp)) : wY_fall_15 post (nI r) (n + 1) (nI i) (nI c) sC (fun i => nI (p i)) sA kA :=
  br_f (nI_nlt (a := 29) (by omega) (by decide)) (sy_gv hc hr rfl (by omega) (ss_h9 hv) (fun sh hsh => sy_keep hc hsh (fun kp hkp => sy_gv hc hr (nI_1 i) (by omega) (ss_h9 hv) (fun sh2 hsh2 => sy_f41 hc hkp hsh2 (fun j hj => ss_S_62 (by omega) hj) (fun j hj => ss_S_62 (by omega) hj) (fun z => h0 z _ _) (fun z => h1 z _ _)))))
def ss_fe (e : Nat) : Int32 := if e < 30 then nI e else -4
theorem sx_f15 {post : Int32 → SX → Prop} {c s : Nat} {sC : Int32} {p : Nat → Nat} {tA sA oA rA dA : Nat → Int32} {r e : Nat} (hc : c ≤ 6) (hr : r < 7) (hv : ∀ i, p i ≤ 999) (hse : s ≤ e) (he : e ≤ 30) (hno : ∀ n, s ≤ n → n < e → ¬ 0 < ss_fg r c p n) (hyes : e < 30 → 0 < ss_fg r c p e) (hp : ∀ sh ot rs od, post (ss_fe e) (nI c, sC, (fun i => nI (p i)), tA, sh, ot, rs, od)) : ∃ n, wX_fall_15 post (nI r) n (nI s) (nI c) sC (fun i => nI (p i)) tA sA oA rA dA := by
  refine pk_loop (σ := (Nat → Int32) × (Nat → Int32) × (Nat → Int32) × (Nat → Int32)) (fun n i st => wX_fall_15 post (nI r) n (nI i) (nI c) sC (fun i => nI (p i)) tA st.1 st.2.1 st.2.2.1 st.2.2.2) (fun i _ => s ≤ i) e s (sA, oA, rA, dA) hse (Nat.le_refl s) (fun n st _ => ?_) (fun n i st hi hsi k => ?_)
  · unfold ss_fe at hp
    by_cases ee : e < 30
    · rw [if_pos ee] at hp
      exact sx_fst hc hr hv ee (fun z => absurd (hyes ee) (by omega)) (fun _ sh ot rs od => hp sh ot rs od)
    · rw [if_neg ee] at hp
      have e3 : e = 30 := by omega
      subst e3
      exact br_t (nI_le (a := 30) (b := 30) (by decide) (by decide)) (hp _ _ _ _)
  · exact sx_fst hc hr hv (by omega) (fun _ sh ot rs od => k (sh, ot, rs, od) (by omega)) (fun z => absurd z (hno i hsi hi))
theorem sy_f15 {post : Int32 → SY → Prop} {c s : Nat} {sC : Int32} {p : Nat → Nat} {sA kA : Nat → Int32} {r e : Nat} (hc : c ≤ 6) (hr : r < 7) (hv : ∀ i, p i ≤ 999) (hse : s ≤ e) (he : e ≤ 30) (hno : ∀ n, s ≤ n → n < e → ¬ 0 < ss_fg r c p n) (hyes : e < 30 → 0 < ss_fg r c p e) (hp : ∀ sh kp, post (ss_fe e) (nI c, sC, (fun i => nI (p i)), sh, kp)) : ∃ n, wY_fall_15 post (nI r) n (nI s) (nI c) sC (fun i => nI (p i)) sA kA := by
  refine pk_loop (σ := (Nat → Int32) × (Nat → Int32)) (fun n i st => wY_fall_15 post (nI r) n (nI i) (nI c) sC (fun i => nI (p i)) st.1 st.2) (fun i _ => s ≤ i) e s (sA, kA) hse (Nat.le_refl s) (fun n st _ => ?_) (fun n i st hi hsi k => ?_)
  · unfold ss_fe at hp
    by_cases ee : e < 30
    · rw [if_pos ee] at hp
      exact sy_fst hc hr hv ee (fun z => absurd (hyes ee) (by omega)) (fun _ sh kp => hp sh kp)
    · rw [if_neg ee] at hp
      have e3 : e = 30 := by omega
      subst e3
      exact br_t (nI_lt (a := 29) (b := 30) (by decide) (by decide)) (hp _ _)
  · exact sy_fst hc hr hv (by omega) (fun _ sh kp => k (sh, kp) (by omega)) (fun z => absurd z (hno i hsi hi))
theorem i_vc_fall {k : Nat} {u : SX} {v : SY} (I : i_Rel k u v) (hk : k + 3 ≤ 1536) (v1 : Int32) : wpX_fall (fun r u' => wpY_fall (fun r' v' => r' = r ∧ i_Rel (k + 3) u' v') v v1) u v1 := by
  obtain ⟨c, s, p, tA, sA, oA, rA, dA, yS, yK, hc, hs, hp, rfl, rfl⟩ := I
  unfold wpX_fall wpY_fall
  rcases ss_ix v1 (n := 7) (by decide) with h | ⟨r, hr, rfl⟩
  · exact sx_isRule_b h (br_t rfl (sy_noRule_b h (br_f (by decide) ⟨rfl, ss_rel hc hs hp⟩)))
  · obtain ⟨e, hse, he, hno, hyes⟩ := ss_least (fun n => 0 < ss_fg r c p n) (30 - s) s
    rw [show s + (30 - s) = 30 from by omega] at he hyes
    exact sx_isRule_o hr (br_f (by decide) (sx_f15 hc hr hp hse he hno hyes (fun sh ot rs od => sy_noRule_o hr (br_t rfl (sy_f15 hc hr hp hse he hno hyes (fun sh' kp => ⟨rfl, ss_rel hc hs hp⟩))))))
end
section
/-! missing and spare: one list's votes set otherwise -/
def ss_wi (p : Nat → Nat) (i x : Nat) : Nat → Nat := fun j => if j = i then x else p j
theorem ss_wi_p {p : Nat → Nat} {i : Nat} : ss_wi p i (p i) = p := by
  funext j
  by_cases e : j = i
  · rw [e]; exact if_pos rfl
  · exact if_neg e
theorem ss_wi_le {p : Nat → Nat} {i x : Nat} (hp : ∀ i, p i ≤ 999) (hx : x ≤ 2999) (j : Nat) : ss_wi p i x j ≤ 2999 := by
  unfold ss_wi
  by_cases e : j = i
  · rw [if_pos e]; exact hx
  · rw [if_neg e]; exact Nat.le_trans (hp j) (by decide)
/-- the share of list i when it has x votes -/
def ss_W (r c : Nat) (p : Nat → Nat) (s i x : Nat) : Nat := ss_S r c (ss_wi p i x) s i
theorem ss_W_le {r c s i x : Nat} {p : Nat → Nat} (hr : r < 5) : ss_W r c p s i x ≤ s := by
  unfold ss_W
  rw [ss_S_q hr]; exact ss_q_le s i
theorem ss_W_p {r c s i : Nat} {p : Nat → Nat} : ss_W r c p s i (p i) = ss_S r c p s i := by
  unfold ss_W; rw [ss_wi_p]
theorem sy_sw {post : Int32 → SY → Prop} {c s : Nat} {y : Int32} {p : Nat → Nat} {sA kA : Nat → Int32} {r i x : Nat} (hc : c ≤ 6) (hr : r < 7) (hs : s ≤ 30) (hi : i < c) (hv : ∀ i, p i ≤ 999) (hy : y = nI x) (hx : x ≤ 2999) (hp : ∀ sh, post (nI (ss_W r c p s i x)) (nI c, nI s, (fun k => nI (p k)), sh, kA)) : wpY_shareWith post (nI c, nI s, (fun k => nI (p k)), sA, kA) (nI r) (nI i) y := by
  subst hy
  have ei : vp_in (nI i) 6 := vp_in_nI (by omega) (by decide)
  refine ⟨ei, nm_e ⟨ei, nm_r (e' := fun k => nI (ss_wi p i x k)) (ss_up9 (by omega)) (sy_gv hc hr rfl (by omega) (ss_wi_le hv hx) (fun sh hsh => ⟨ei, nm_r (e' := fun k => nI (p k)) ?_ ⟨ei, ?_⟩⟩))⟩⟩
  · show upd (fun k => nI (ss_wi p i x k)) (nI i).toNatClampNeg (nI (p (nI i).toNatClampNeg)) = _
    rw [nI_clamp (by omega), ss_upd_f]
    funext k
    by_cases e : k = i
    · rw [if_pos e, e]
    · rw [if_neg e]
      exact congrArg nI (if_neg e)
  · rw [ss_sh_at hsh hc hi]; exact hp sh
/-- the trial array: all but list i as polled -/
def ss_tr (c i : Nat) (a : Nat → Int32) (p : Nat → Nat) : Prop := ∀ j, j < c → j ≠ i → a j = nI (p j)
theorem ss_tr_up {c i x : Nat} {a : Nat → Int32} {p : Nat → Nat} (h : ss_tr c i a p) : ss_sh c (upd a i (nI x)) (ss_wi p i x) := by
  intro j hj
  unfold ss_wi
  by_cases e : j = i
  · rw [if_pos e, e]; exact pk_us
  · rw [if_neg e, pk_un e]; exact h j hj e
theorem ss_tr_k {c i x : Nat} {a : Nat → Int32} {p : Nat → Nat} (h : ss_tr c i a p) : ss_tr c i (upd a i (nI x)) p := by
  intro j hj e
  rw [pk_un e]; exact h j hj e
theorem sx_copy {post : SX → Prop} {c : Nat} {sC : Int32} {p : Nat → Nat} {tA sA oA rA dA : Nat → Int32} (hc : c ≤ 6) (hp : ∀ tr, ss_sh c tr p → post (nI c, sC, (fun i => nI (p i)), tr, sA, oA, rA, dA)) : wpX_copyVotesToTrial post (nI c, sC, (fun i => nI (p i)), tA, sA, oA, rA, dA) :=
  pk_loop (σ := Nat → Int32) (fun n i tr => wX_copyVotesToTrial_2 post (nI c) sC n (nI i) (fun i => nI (p i)) tr sA oA rA dA) (fun i tr => ss_sh i tr p) c 0 tA (Nat.zero_le _) ss_sh_0
    (fun n tr htr => br_t (nI_le (Nat.le_refl c) (by omega)) (hp tr htr))
    (fun n i tr hi htr k => br_f (nI_ge hi (by omega)) ⟨vp_in_nI (by omega) (by decide), vp_in_nI (by omega) (by decide), nm_r (e' := upd tr i (nI (p i))) (by
      show upd tr (nI i).toNatClampNeg (nI (p (nI i).toNatClampNeg)) = _
      rw [nI_clamp (by omega)]) (nm_r (nI_1 i) (k _ (ss_sh_s htr)))⟩)
/-! missing -/
def ss_me (e : Nat) : Int32 := if e < 2001 then nI e else -4
theorem sx_mst {post : Int32 → SX → Prop} {c s : Nat} {p : Nat → Nat} {tA sA oA rA dA : Nat → Int32} {r n i m : Nat} (hc : c ≤ 6) (hr : r < 5) (hs : s ≤ 30) (hi : i < c) (hv : ∀ i, p i ≤ 999) (ht : ss_tr c i tA p) (hm : m < 2001) (h0 : ss_W r c p s i (p i + m) ≤ ss_S r c p s i → ∀ tr sh rs od, ss_tr c i tr p → wX_missing_49 post (nI r) (nI i) (nI (ss_S r c p s i)) n (nI (m + 1)) (nI c) (nI s) (fun i => nI (p i)) tr sh oA rs od) (h1 : ss_S r c p s i < ss_W r c p s i (p i + m) → ∀ tr sh rs od, post (nI m) (nI c, nI s, (fun i => nI (p i)), tr, sh, oA, rs, od)) : wX_missing_49 post (nI r) (nI i) (nI (ss_S r c p s i)) (n + 1) (nI m) (nI c) (nI s) (fun i => nI (p i)) tA sA oA rA dA := by
  have ei : vp_in (nI i) 6 := vp_in_nI (by omega) (by decide)
  have hpi := hv i
  have b1 := ss_W_le (r := r) (c := c) (p := p) (s := s) (i := i) (x := p i + m) hr
  have b2 : ss_S r c p s i ≤ s := by rw [← ss_W_p]; exact ss_W_le hr
  refine br_f (nI_nlt (a := 2000) (by omega) (by decide)) ⟨ei, ei, nm_r (e' := upd tA i (nI (p i + m))) ?_ (sx_out_trial_shares hc (by omega) (by omega) (ss_tr_up ht) (fun j _ => ss_wi_le hv (by omega) j) (fun sh rs od hsh => ⟨ei, pk_le (ss_W r c p s i (p i + m)) (ss_S r c p s i) (fun z => nm_r (nI_1 m) (h0 z _ _ _ _ (ss_tr_k ht))) (fun z => h1 z _ _ _ _) (ss_sh_at hsh hc hi) rfl (by omega) (by omega)⟩))⟩
  show upd tA (nI i).toNatClampNeg (nI (p (nI i).toNatClampNeg) + nI m) = _
  rw [nI_clamp (by omega), nI_add]
theorem sx_m49 {post : Int32 → SX → Prop} {c s : Nat} {p : Nat → Nat} {tA sA oA rA dA : Nat → Int32} {r i e : Nat} (hc : c ≤ 6) (hr : r < 5) (hs : s ≤ 30) (hi : i < c) (hv : ∀ i, p i ≤ 999) (ht : ss_tr c i tA p) (he1 : 1 ≤ e) (he : e ≤ 2001) (hno : ∀ m, 1 ≤ m → m < e → ¬ ss_S r c p s i < ss_W r c p s i (p i + m)) (hyes : e < 2001 → ss_S r c p s i < ss_W r c p s i (p i + e)) (hp : ∀ tr sh rs od, post (ss_me e) (nI c, nI s, (fun i => nI (p i)), tr, sh, oA, rs, od)) : ∃ n, wX_missing_49 post (nI r) (nI i) (nI (ss_S r c p s i)) n 1 (nI c) (nI s) (fun i => nI (p i)) tA sA oA rA dA := by
  refine pk_loop (σ := (Nat → Int32) × (Nat → Int32) × (Nat → Int32) × (Nat → Int32)) (fun n m st => wX_missing_49 post (nI r) (nI i) (nI (ss_S r c p s i)) n (nI m) (nI c) (nI s) (fun i => nI (p i)) st.1 st.2.1 oA st.2.2.1 st.2.2.2) (fun m st => 1 ≤ m ∧ ss_tr c i st.1 p) e 1 (tA, sA, rA, dA) he1 ⟨Nat.le_refl 1, ht⟩ (fun n st hst => ?_) (fun n m st hm hst k => ?_)
  · unfold ss_me at hp
    by_cases ee : e < 2001
    · rw [if_pos ee] at hp
      exact sx_mst hc hr hs hi hv hst.2 ee (fun z => absurd (hyes ee) (by omega)) (fun _ tr sh rs od => hp tr sh rs od)
    · rw [if_neg ee] at hp
      have e3 : e = 2001 := by omega
      subst e3
      exact br_t (nI_lt (a := 2000) (b := 2001) (by decide) (by decide)) (hp _ _ _ _)
  · exact sx_mst hc hr hs hi hv hst.2 (by omega) (fun _ tr sh rs od htr => k (tr, sh, rs, od) ⟨by omega, htr⟩) (fun z => absurd z (hno m hst.1 hm))
theorem sy_mst {post : Int32 → SY → Prop} {c s : Nat} {p : Nat → Nat} {sA kA : Nat → Int32} {r n i m : Nat} (hc : c ≤ 6) (hr : r < 5) (hs : s ≤ 30) (hi : i < c) (hv : ∀ i, p i ≤ 999) (hm : m < 2001) (h0 : ss_W r c p s i (p i + m) ≤ ss_S r c p s i → ∀ sh, wY_missing_50 post (nI r) (nI i) (nI (ss_S r c p s i)) n (nI (m + 1)) (nI c) (nI s) (fun i => nI (p i)) sh kA) (h1 : ss_S r c p s i < ss_W r c p s i (p i + m) → ∀ sh, post (nI m) (nI c, nI s, (fun i => nI (p i)), sh, kA)) : wY_missing_50 post (nI r) (nI i) (nI (ss_S r c p s i)) (n + 1) (nI m) (nI c) (nI s) (fun i => nI (p i)) sA kA := by
  have ei : vp_in (nI i) 6 := vp_in_nI (by omega) (by decide)
  have hpi := hv i
  have b1 := ss_W_le (r := r) (c := c) (p := p) (s := s) (i := i) (x := p i + m) hr
  have b2 : ss_S r c p s i ≤ s := by rw [← ss_W_p]; exact ss_W_le hr
  refine br_f (nI_nlt (a := 2000) (by omega) (by decide)) ⟨ei, sy_sw (x := p i + m) hc (by omega) hs hi hv ?_ (by omega) (fun sh => pk_le (ss_W r c p s i (p i + m)) (ss_S r c p s i) (fun z => nm_r (nI_1 m) (h0 z sh)) (fun z => h1 z sh) rfl rfl (by omega) (by omega))⟩
  show nI (p (nI i).toNatClampNeg) + nI m = _
  rw [nI_clamp (by omega), nI_add]
theorem sy_m50 {post : Int32 → SY → Prop} {c s : Nat} {p : Nat → Nat} {sA kA : Nat → Int32} {r i e : Nat} (hc : c ≤ 6) (hr : r < 5) (hs : s ≤ 30) (hi : i < c) (hv : ∀ i, p i ≤ 999) (he1 : 1 ≤ e) (he : e ≤ 2001) (hno : ∀ m, 1 ≤ m → m < e → ¬ ss_S r c p s i < ss_W r c p s i (p i + m)) (hyes : e < 2001 → ss_S r c p s i < ss_W r c p s i (p i + e)) (hp : ∀ sh, post (ss_me e) (nI c, nI s, (fun i => nI (p i)), sh, kA)) : ∃ n, wY_missing_50 post (nI r) (nI i) (nI (ss_S r c p s i)) n 1 (nI c) (nI s) (fun i => nI (p i)) sA kA := by
  refine pk_loop (σ := Nat → Int32) (fun n m sh => wY_missing_50 post (nI r) (nI i) (nI (ss_S r c p s i)) n (nI m) (nI c) (nI s) (fun i => nI (p i)) sh kA) (fun m _ => 1 ≤ m) e 1 sA he1 (Nat.le_refl 1) (fun n sh hst => ?_) (fun n m sh hm hst k => ?_)
  · unfold ss_me at hp
    by_cases ee : e < 2001
    · rw [if_pos ee] at hp
      exact sy_mst hc hr hs hi hv ee (fun z => absurd (hyes ee) (by omega)) (fun _ sh => hp sh)
    · rw [if_neg ee] at hp
      have e3 : e = 2001 := by omega
      subst e3
      exact br_t (nI_lt (a := 2000) (b := 2001) (by decide) (by decide)) (hp _)
  · exact sy_mst hc hr hs hi hv (by omega) (fun _ sh => k sh (by omega)) (fun z => absurd z (hno m hst hm))
theorem i_vc_missing {k : Nat} {u : SX} {v : SY} (I : i_Rel k u v) (hk : k + 3 ≤ 1536) (v1 : Int32) (v2 : Int32) : wpX_missing (fun r u' => wpY_missing (fun r' v' => r' = r ∧ i_Rel (k + 3) u' v') v v1 v2) u v1 v2 := by
  obtain ⟨c, s, p, tA, sA, oA, rA, dA, yS, yK, hc, hs, hp, rfl, rfl⟩ := I
  unfold wpX_missing wpY_missing
  rcases ss_ix v1 (n := 5) (by decide) with h | ⟨r, hr, rfl⟩
  · refine sx_isQuotientRule_b h (br_t rfl ?_)
    rcases ss_q57 h with h7 | ⟨r, hr, h5, rfl⟩
    · exact sy_noRule_b h7 (br_f (by decide) ⟨rfl, ss_rel hc hs hp⟩)
    · exact sy_noRule_o hr (br_t rfl (br_t (nI_lt (a := 4) (by omega) (by omega)) ⟨rfl, ss_rel hc hs hp⟩))
  · have n4 : ¬ (4 : Int32) < nI r := nI_nlt (a := 4) (by omega) (by decide)
    rcases ss_ix v2 (n := c) (by omega) with h | ⟨i, hi, rfl⟩
    · exact sx_isQuotientRule_o hr (br_f (by decide) (sx_isList_b hc h (br_t rfl (sy_noRule_o (by omega) (br_t rfl (br_f n4 (sy_noList_b hc h (br_f (by decide) ⟨rfl, ss_rel hc hs hp⟩))))))))
    · have ei : vp_in (nI i) 6 := vp_in_nI (by omega) (by decide)
      have hpi := hp i
      have b2 : ss_S r c p s i ≤ s := by rw [← ss_W_p]; exact ss_W_le hr
      obtain ⟨e, he1, he, hno, hyes⟩ := ss_least (fun m => ss_S r c p s i < ss_W r c p s i (p i + m)) 2000 1
      have he' : e ≤ 2001 := by omega
      have hyes' : e < 2001 → ss_S r c p s i < ss_W r c p s i (p i + e) := fun z => hyes (by omega)
      refine sx_isQuotientRule_o hr (br_f (by decide) (sx_isList_o hc hi (br_f (by decide) (sx_ps hc (by omega) rfl (by omega) hp (fun sh rs od hsh => ⟨ei, nm_r (ss_sh_at hsh hc hi) (sx_copy hc (fun tr htr => sx_m49 hc hr hs hi hp (fun j hj _ => htr j hj) he1 he' hno hyes' (fun tr' sh' rs' od' => ?_)))⟩)))))
      refine sy_noRule_o (by omega) (br_t rfl (br_f n4 (sy_noList_o hc hi (br_t rfl ⟨ei, sy_sw (x := p i) hc (by omega) hs hi hp (by
        show nI (p (nI i).toNatClampNeg) = _
        rw [nI_clamp (by omega)]) (by omega) (fun sh2 => ?_)⟩))))
      rw [ss_W_p]
      refine pk_eq (ss_S r c p s i) s (fun z => ⟨?_, ss_rel hc hs hp⟩) (fun z => sy_m50 hc hr hs hi hp he1 he' hno hyes' (fun sh3 => ⟨rfl, ss_rel hc hs hp⟩)) rfl rfl (by omega) (by omega)
      unfold ss_me
      by_cases ee : e < 2001
      · have h1 := hyes' ee
        have h2 := ss_W_le (r := r) (c := c) (p := p) (s := s) (i := i) (x := p i + e) hr
        omega
      · rw [if_neg ee]
/-! spare -/
theorem sx_s54 {post : Int32 → SX → Prop} {c s : Nat} {p : Nat → Nat} {tA sA oA rA dA : Nat → Int32} {r i e : Nat} (hc : c ≤ 6) (hr : r < 5) (hs : s ≤ 30) (hi : i < c) (hv : ∀ i, p i ≤ 999) (ht : ss_tr c i tA p) (he : e ≤ p i) (hno : ∀ f, e < f → f ≤ p i → ¬ ss_W r c p s i (p i - f) = ss_S r c p s i) (hyes : ss_W r c p s i (p i - e) = ss_S r c p s i) (hp : ∀ tr sh rs od, post (nI e) (nI c, nI s, (fun i => nI (p i)), tr, sh, oA, rs, od)) : ∃ n, wX_spare_54 post (nI r) (nI i) (nI (ss_S r c p s i)) n (nI (p i)) (nI c) (nI s) (fun i => nI (p i)) tA sA oA rA dA := by
  have hpi := hv i
  have ei : vp_in (nI i) 6 := vp_in_nI (by omega) (by decide)
  have b2 : ss_S r c p s i ≤ s := by rw [← ss_W_p]; exact ss_W_le hr
  have st : ∀ n f tr sh rs od, 0 < f → f ≤ p i → ss_tr c i tr p → (ss_W r c p s i (p i - f) = ss_S r c p s i → ∀ tr sh rs od, post (nI f) (nI c, nI s, (fun i => nI (p i)), tr, sh, oA, rs, od)) → (¬ ss_W r c p s i (p i - f) = ss_S r c p s i → ∀ tr sh rs od, ss_tr c i tr p → wX_spare_54 post (nI r) (nI i) (nI (ss_S r c p s i)) n (nI (f - 1)) (nI c) (nI s) (fun i => nI (p i)) tr sh oA rs od) → wX_spare_54 post (nI r) (nI i) (nI (ss_S r c p s i)) (n + 1) (nI f) (nI c) (nI s) (fun i => nI (p i)) tr sh oA rs od := by
    intro n f tr sh rs od hf hfp htr h1 h0
    obtain ⟨f', rfl⟩ : ∃ f', f = f' + 1 := ⟨f - 1, by omega⟩
    have b1 := ss_W_le (r := r) (c := c) (p := p) (s := s) (i := i) (x := p i - (f' + 1)) hr
    refine br_f (nI_nle hf (by omega)) ⟨ei, ei, nm_r (e' := upd tr i (nI (p i - (f' + 1)))) ?_ (sx_out_trial_shares hc (by omega) (by omega) (ss_tr_up htr) (fun j _ => ss_wi_le hv (by omega) j) (fun sh2 rs2 od2 hsh2 => ⟨ei, pk_eq (ss_W r c p s i (p i - (f' + 1))) (ss_S r c p s i) (fun z => h1 z _ _ _ _) (fun z => nm_r (pk_m1 f') (h0 z _ _ _ _ (ss_tr_k htr))) (ss_sh_at hsh2 hc hi) rfl (by omega) (by omega)⟩))⟩
    show upd tr (nI i).toNatClampNeg (nI (p (nI i).toNatClampNeg) - nI (f' + 1)) = _
    rw [nI_clamp (by omega), pk_sub hfp]
  refine pk_loop (σ := (Nat → Int32) × (Nat → Int32) × (Nat → Int32) × (Nat → Int32)) (fun n d st => wX_spare_54 post (nI r) (nI i) (nI (ss_S r c p s i)) n (nI (p i - d)) (nI c) (nI s) (fun i => nI (p i)) st.1 st.2.1 oA st.2.2.1 st.2.2.2) (fun _ st => ss_tr c i st.1 p) (p i - e) 0 (tA, sA, rA, dA) (Nat.zero_le _) ht (fun n t hst => ?_) (fun n d t hd hst k => ?_)
  · rw [show p i - (p i - e) = e from by omega]
    by_cases e0 : e = 0
    · subst e0
      exact br_t (nI_le (a := 0) (b := 0) (by decide) (by decide)) (hp _ _ _ _)
    · exact st n e _ _ _ _ (by omega) he hst (fun _ tr sh rs od => hp tr sh rs od) (fun z => absurd hyes z)
  · refine st n (p i - d) _ _ _ _ (by omega) (by omega) hst (fun z => absurd z (hno (p i - d) (by omega) (by omega))) (fun _ tr sh rs od htr => ?_)
    rw [show p i - d - 1 = p i - (d + 1) from by omega]
    exact k (tr, sh, rs, od) htr
theorem sy_s53 {post : Int32 → SY → Prop} {c s : Nat} {p : Nat → Nat} {sA kA : Nat → Int32} {r i e : Nat} (hc : c ≤ 6) (hr : r < 5) (hs : s ≤ 30) (hi : i < c) (hv : ∀ i, p i ≤ 999) (he : e ≤ p i) (hno : ∀ f, e < f → f ≤ p i → ¬ ss_W r c p s i (p i - f) = ss_S r c p s i) (hyes : ss_W r c p s i (p i - e) = ss_S r c p s i) (hp : ∀ sh, post (nI e) (nI c, nI s, (fun i => nI (p i)), sh, kA)) : ∃ n, wY_spare_53 post (nI r) (nI i) (nI (ss_S r c p s i)) n (nI (p i)) (nI (ss_W r c p s i 0)) (nI c) (nI s) (fun i => nI (p i)) sA kA := by
  have hpi := hv i
  have ei : vp_in (nI i) 6 := vp_in_nI (by omega) (by decide)
  have b2 : ss_S r c p s i ≤ s := by rw [← ss_W_p]; exact ss_W_le hr
  have e0 : ss_W r c p s i 0 = ss_W r c p s i (p i - (p i - 0)) := by rw [show p i - (p i - 0) = 0 from by omega]
  rw [e0]
  refine pk_loop (σ := Nat → Int32) (fun n d sh => wY_spare_53 post (nI r) (nI i) (nI (ss_S r c p s i)) n (nI (p i - d)) (nI (ss_W r c p s i (p i - (p i - d)))) (nI c) (nI s) (fun i => nI (p i)) sh kA) (fun _ _ => True) (p i - e) 0 sA (Nat.zero_le _) trivial (fun n sh _ => ?_) (fun n d sh hd _ k => ?_)
  · rw [show p i - (p i - e) = e from by omega]
    exact br_t (by rw [hyes]) (hp sh)
  · have b1 := ss_W_le (r := r) (c := c) (p := p) (s := s) (i := i) (x := p i - (p i - d)) hr
    have hne := hno (p i - d) (by omega) (by omega)
    have em : nI (p i - d) + (-1) = nI (p i - (d + 1)) := by
      rw [show p i - d = (p i - (d + 1)) + 1 from by omega]; exact pk_m1 _
    refine br_f (fun z => hne ((nI_eq (by omega) (by omega)).mp z)) (nm_r em ⟨ei, sy_sw (x := p i - (p i - (d + 1))) hc (by omega) hs hi hv ?_ (by omega) (fun sh2 => k sh2 trivial)⟩)
    show nI (p (nI i).toNatClampNeg) - nI (p i - (d + 1)) = _
    rw [nI_clamp (by omega), pk_sub (by omega)]
theorem i_vc_spare {k : Nat} {u : SX} {v : SY} (I : i_Rel k u v) (hk : k + 3 ≤ 1536) (v1 : Int32) (v2 : Int32) : wpX_spare (fun r u' => wpY_spare (fun r' v' => r' = r ∧ i_Rel (k + 3) u' v') v v1 v2) u v1 v2 := by
  obtain ⟨c, s, p, tA, sA, oA, rA, dA, yS, yK, hc, hs, hp, rfl, rfl⟩ := I
  unfold wpX_spare wpY_spare
  rcases ss_ix v1 (n := 5) (by decide) with h | ⟨r, hr, rfl⟩
  · refine sx_isQuotientRule_b h (br_t rfl ?_)
    rcases ss_q57 h with h7 | ⟨r, hr, h5, rfl⟩
    · exact sy_noRule_b h7 (br_f (by decide) ⟨rfl, ss_rel hc hs hp⟩)
    · exact sy_noRule_o hr (br_t rfl (br_t (nI_lt (a := 4) (by omega) (by omega)) ⟨rfl, ss_rel hc hs hp⟩))
  · have n4 : ¬ (4 : Int32) < nI r := nI_nlt (a := 4) (by omega) (by decide)
    rcases ss_ix v2 (n := c) (by omega) with h | ⟨i, hi, rfl⟩
    · exact sx_isQuotientRule_o hr (br_f (by decide) (sx_isList_b hc h (br_t rfl (sy_noRule_o (by omega) (br_t rfl (br_f n4 (sy_noList_b hc h (br_f (by decide) ⟨rfl, ss_rel hc hs hp⟩))))))))
    · have ei : vp_in (nI i) 6 := vp_in_nI (by omega) (by decide)
      have hpi := hp i
      have eat : (fun i => nI (p i)) (nI i).toNatClampNeg = nI (p i) := by
        show nI (p (nI i).toNatClampNeg) = _
        rw [nI_clamp (by omega)]
      obtain ⟨d, _, hd, hno, hyes⟩ := ss_least (fun d => ss_W r c p s i d = ss_S r c p s i) (p i) 0
      rw [Nat.zero_add] at hd hyes
      have hyes2 : ss_W r c p s i (p i - (p i - d)) = ss_S r c p s i := by
        rw [show p i - (p i - d) = d from by omega]
        by_cases ee : d < p i
        · exact hyes ee
        · rw [show d = p i from by omega]; exact ss_W_p
      have hno2 : ∀ f, p i - d < f → f ≤ p i → ¬ ss_W r c p s i (p i - f) = ss_S r c p s i := fun f h1 h2 => hno (p i - f) (Nat.zero_le _) (by omega)
      refine sx_isQuotientRule_o hr (br_f (by decide) (sx_isList_o hc hi (br_f (by decide) (sx_ps hc (by omega) rfl (by omega) hp (fun sh rs od hsh => ⟨ei, nm_r (ss_sh_at hsh hc hi) (sx_copy hc (fun tr htr => ⟨ei, nm_r eat (sx_s54 hc hr hs hi hp (fun j hj _ => htr j hj) (e := p i - d) (by omega) hno2 hyes2 (fun tr' sh' rs' od' => ?_))⟩))⟩)))))
      refine sy_noRule_o (by omega) (br_t rfl (br_f n4 (sy_noList_o hc hi (br_t rfl ⟨ei, sy_sw (x := p i) hc (by omega) hs hi hp eat (by omega) (fun sh2 => ⟨ei, nm_r eat (sy_sw (x := 0) hc (by omega) hs hi hp rfl (by omega) (fun sh3 => ?_))⟩)⟩))))
      rw [ss_W_p]
      exact sy_s53 hc hr hs hi hp (e := p i - d) (by omega) hno2 hyes2 (fun sh4 => ⟨rfl, ss_rel hc hs hp⟩)
end
section
/-! majority -/
theorem ss_mx_1 {g : Nat → Nat} : ss_mx g 1 = 0 := by
  show (if g (ss_mx g 0) < g 0 then 0 else ss_mx g 0) = 0
  have e : ss_mx g 0 = 0 := rfl
  rw [e, if_neg (Nat.lt_irrefl _)]
theorem ss_mx_t {g : Nat → Nat} {i : Nat} (h : g (ss_mx g i) < g i) : ss_mx g (i + 1) = i := if_pos h
theorem ss_mx_f {g : Nat → Nat} {i : Nat} (h : g i ≤ g (ss_mx g i)) : ss_mx g (i + 1) = ss_mx g i := if_neg (by omega)
theorem ss_z_sh {c b : Nat} {a : Nat → Int32} {g : Nat → Nat} (h : ss_sh c a g) : ss_sh c (upd a b (nI 0)) (ss_z g b) := ss_sh_up h (fun _ _ => rfl)
theorem ss_z_le {g : Nat → Nat} {b c : Nat} (h : ∀ i, i < c → g i ≤ 62) : ∀ i, i < c → ss_z g b i ≤ 62 := fun i hi => by
  unfold ss_z
  by_cases e : i = b
  · rw [if_pos e]; exact Nat.zero_le _
  · rw [if_neg e]; exact h i hi
theorem sx_tg {post : Int32 → SX → Prop} {c : Nat} {sC : Int32} {pA tA sA oA rA dA : Nat → Int32} {g : Nat → Nat} (hc : c ≤ 6) (h0 : 0 < c) (h : ss_sh c sA g) (hg : ∀ i, i < c → g i ≤ 62) (hp : ∀ sh, ss_sh c sh (ss_z g (ss_mx g c)) → post (nI (g (ss_mx g c))) (nI c, sC, pA, tA, sh, oA, rA, dA)) : wpX_takeGreatest__shares post (nI c, sC, pA, tA, sA, oA, rA, dA) := by
  refine pk_loop (σ := Nat) (fun n i b => wX_takeGreatest__shares_4 post (nI c) sC pA tA sA oA rA dA n (nI b) (nI i)) (fun i b => 1 ≤ i ∧ b = ss_mx g i) c 1 0 h0 ⟨Nat.le_refl 1, ss_mx_1.symm⟩ (fun n b hb => ?_) (fun n i b hi hb k => ?_)
  · obtain ⟨_, rfl⟩ := hb
    have hl := ss_mx_lt (g := g) c h0
    have eb : vp_in (nI (ss_mx g c)) 6 := vp_in_nI (by omega) (by decide)
    exact br_t (nI_le (Nat.le_refl c) (by omega)) ⟨eb, nm_r (ss_sh_at h hc hl) ⟨eb, nm_r (e' := upd sA (ss_mx g c) (nI 0)) (by rw [nI_clamp (by omega)]; rfl) (hp _ (ss_z_sh h))⟩⟩
  · obtain ⟨h1, rfl⟩ := hb
    have hl := ss_mx_lt (g := g) i (by omega)
    have ei : vp_in (nI i) 6 := vp_in_nI (by omega) (by decide)
    have eb : vp_in (nI (ss_mx g i)) 6 := vp_in_nI (by omega) (by decide)
    have b1 := hg i hi
    have b2 := hg (ss_mx g i) (by omega)
    exact br_f (nI_ge hi (by omega)) ⟨ei, eb, pk_le (g i) (g (ss_mx g i)) (fun z => nm_r (nI_1 i) (k (ss_mx g i) ⟨by omega, (ss_mx_f z).symm⟩)) (fun z => nm_r (nI_1 i) (k i ⟨by omega, (ss_mx_t z).symm⟩)) (ss_sh_at h hc hi) (ss_sh_at h hc (by omega)) (by omega) (by omega)⟩
theorem sx_m41 {post : Int32 → SX → Prop} {c all : Nat} {sC : Int32} {pA tA oA rA dA : Nat → Int32} (hc : c ≤ 6) (hall : all ≤ 372) : ∀ (f : Nat) (g : Nat → Nat) (h k : Nat) (sA : Nat → Int32), k + f = c → ss_sh c sA g → (∀ i, i < c → g i ≤ 62) → h ≤ 62 * k → (∀ sh, post (nI (ss_mj c all f g h k)) (nI c, sC, pA, tA, sh, oA, rA, dA)) → wX_majority_41 post (nI all) (f + 1) (nI h) (nI (k + 1)) (nI c) sC pA tA sA oA rA dA := by
  intro f
  induction f with
  | zero =>
    intro g h k sA hkf hsh hg hh hp
    exact br_t (nI_lt (by omega) (by omega)) (hp sA)
  | succ f ih =>
    intro g h k sA hkf hsh hg hh hp
    have b1 := hg (ss_mx g c) (ss_mx_lt c (by omega))
    have e2 : nI (h + g (ss_mx g c)) * 2 = nI ((h + g (ss_mx g c)) * 2) := pk_mul _ 2
    refine br_f (nI_nlt (by omega) (by omega)) (sx_tg hc (by omega) hsh hg (fun sh hz => nm_r (nI_add _ _) (pk_le ((h + g (ss_mx g c)) * 2) all (fun z => nm_r (nI_1 (k + 1)) (ih (ss_z g (ss_mx g c)) (h + g (ss_mx g c)) (k + 1) sh (by omega) hz (ss_z_le hg) (by omega) (fun sh' => ?_))) (fun z => ?_) e2 rfl (by omega) (by omega))))
    · have e : ss_mj c all (f + 1) g h k = ss_mj c all f (ss_z g (ss_mx g c)) (h + g (ss_mx g c)) (k + 1) := if_neg (by omega)
      rw [← e]; exact hp sh'
    · have e : ss_mj c all (f + 1) g h k = k + 1 := if_pos (by omega)
      rw [← e]; exact hp sh
theorem sy_m23 {post : Int32 → SY → Prop} {c : Nat} {sC : Int32} {vA sA kA : Nat → Int32} {g : Nat → Nat} (hc : c ≤ 6) (h : ss_sh c sA g) (hp : ∃ n, wY_majority_51 post (nI (ss_sum g c)) (nI c) sC n 0 0 vA sA kA) : ∃ n, wY_majority_23 post (nI c) sC vA sA kA n 0 0 :=
  ss_loop (fun n i => wY_majority_23 post (nI c) sC vA sA kA n (nI (ss_sum g i)) (nI i)) c 0 (Nat.zero_le _)
    (fun n => br_t (nI_le (Nat.le_refl c) (by omega)) hp)
    (fun n i _ hi ih => br_f (nI_ge hi (by omega)) ⟨vp_in_nI (by omega) (by decide), nm_r (e' := nI (ss_sum g (i + 1))) (by rw [ss_sh_at h hc hi, nI_add]; rfl) (nm_r (nI_1 i) ih)⟩)
theorem sy_m68 {post : Int32 → SY → Prop} {J : Int32 → Int32 → (Nat → Int32) → (Nat → Int32) → (Nat → Int32) → Prop} {c h k : Nat} {x2 sC : Int32} {vA sA kA : Nat → Int32} {g : Nat → Nat} (hc : c ≤ 6) (h0 : 0 < c) (hs : ss_sh c sA g) (hg : ∀ i, i < c → g i ≤ 62) (hJ : ∀ sh, ss_sh c sh (ss_z g (ss_mx g c)) → J (nI (h + g (ss_mx g c))) (nI (k + 1)) vA sh kA) : ∃ n, wY_majority_68 post J x2 (nI h) (nI k) (nI c) sC vA sA kA n 0 1 := by
  refine pk_loop (σ := Nat) (fun n i b => wY_majority_68 post J x2 (nI h) (nI k) (nI c) sC vA sA kA n (nI b) (nI i)) (fun i b => 1 ≤ i ∧ b = ss_mx g i) c 1 0 h0 ⟨Nat.le_refl 1, ss_mx_1.symm⟩ (fun n b hb => ?_) (fun n i b hi hb kk => ?_)
  · obtain ⟨_, rfl⟩ := hb
    have hl := ss_mx_lt (g := g) c h0
    have eb : vp_in (nI (ss_mx g c)) 6 := vp_in_nI (by omega) (by decide)
    exact br_t (nI_le (Nat.le_refl c) (by omega)) ⟨eb, nm_r (e' := nI (h + g (ss_mx g c))) (by rw [ss_sh_at hs hc hl, nI_add]) ⟨eb, nm_r (e' := upd sA (ss_mx g c) (nI 0)) (by rw [nI_clamp (by omega)]; rfl) (nm_r (nI_1 k) (hJ _ (ss_z_sh hs)))⟩⟩
  · obtain ⟨h1, rfl⟩ := hb
    have hl := ss_mx_lt (g := g) i (by omega)
    have ei : vp_in (nI i) 6 := vp_in_nI (by omega) (by decide)
    have eb : vp_in (nI (ss_mx g i)) 6 := vp_in_nI (by omega) (by decide)
    have b1 := hg i hi
    have b2 := hg (ss_mx g i) (by omega)
    exact br_f (nI_ge hi (by omega)) ⟨ei, eb, pk_le (g i) (g (ss_mx g i)) (fun z => nm_r (nI_1 i) (kk (ss_mx g i) ⟨by omega, (ss_mx_f z).symm⟩)) (fun z => nm_r (nI_1 i) (kk i ⟨by omega, (ss_mx_t z).symm⟩)) (ss_sh_at hs hc hi) (ss_sh_at hs hc (by omega)) (by omega) (by omega)⟩
theorem sy_m51 {post : Int32 → SY → Prop} {c all : Nat} {sC : Int32} {vA kA : Nat → Int32} (hc : c ≤ 6) (h0 : 0 < c) (ha : 0 < all) (hall : all ≤ 372) : ∀ (f : Nat) (g : Nat → Nat) (h k : Nat) (sA : Nat → Int32), ss_sh c sA g → (∀ i, i < c → g i ≤ 62) → h + ss_sum g c = all → 2 * h ≤ all → ss_nz g c ≤ f → (∀ sh, post (nI (ss_mj c all f g h k)) (nI c, sC, vA, sh, kA)) → wY_majority_51 post (nI all) (nI c) sC (f + 1) (nI h) (nI k) vA sA kA := by
  intro f
  induction f with
  | zero =>
    intro g h k sA hsh hg hs h2 hn hp
    exact absurd (ss_mj_live h0 hs ha h2 hn).1 (Nat.lt_irrefl 0)
  | succ f ih =>
    intro g h k sA hsh hg hs h2 hn hp
    obtain ⟨_, l1, l2, l3⟩ := ss_mj_live h0 hs ha h2 hn
    have e2 : (2 : Int32) * nI h = nI (2 * h) := pk_mul 2 h
    have e3 : ¬ nI all < 2 * nI h := by rw [e2]; exact nI_nlt h2 (by omega)
    refine br_f e3 (br_f (nI_nle ha (by omega)) (sy_m68 hc h0 hsh hg (fun sh hz => ?_)))
    by_cases e : all < 2 * (h + g (ss_mx g c))
    · have em : ss_mj c all (f + 1) g h k = k + 1 := if_pos e
      have e4 : nI all < 2 * nI (h + g (ss_mx g c)) := by
        rw [show (2 : Int32) * nI (h + g (ss_mx g c)) = nI (2 * (h + g (ss_mx g c))) from pk_mul 2 _]
        exact nI_lt e (by omega)
      rw [em] at hp
      exact br_t e4 (hp sh)
    · have em : ss_mj c all (f + 1) g h k = ss_mj c all f (ss_z g (ss_mx g c)) (h + g (ss_mx g c)) (k + 1) := if_neg e
      rw [em] at hp
      exact ih (ss_z g (ss_mx g c)) (h + g (ss_mx g c)) (k + 1) sh hz (ss_z_le hg) l2 (by omega) (by omega) hp
theorem ss_mj_0 {c : Nat} : ∀ (f : Nat) (g : Nat → Nat) (k : Nat), 0 < c → (∀ i, i < c → g i = 0) → ss_mj c 0 f g 0 k = 0 := by
  intro f
  induction f with
  | zero => intro g k _ _; rfl
  | succ f ih =>
    intro g k h0 hg
    have e : g (ss_mx g c) = 0 := hg _ (ss_mx_lt c h0)
    show (if 0 < 2 * (0 + g (ss_mx g c)) then k + 1 else ss_mj c 0 f (ss_z g (ss_mx g c)) (0 + g (ss_mx g c)) (k + 1)) = 0
    rw [e, if_neg (by decide)]
    refine ih (ss_z g (ss_mx g c)) (k + 1) h0 (fun i hi => ?_)
    unfold ss_z
    by_cases e2 : i = ss_mx g c
    · rw [if_pos e2]
    · rw [if_neg e2]; exact hg i hi
theorem sy_maj {post : Int32 → SY → Prop} {c : Nat} {sC : Int32} {vA sA kA : Nat → Int32} {g : Nat → Nat} (hc : c ≤ 6) (h : ss_sh c sA g) (hg : ∀ i, i < c → g i ≤ 62) (hp : ∀ sh, post (nI (ss_mj c (ss_sum g c) c g 0 0)) (nI c, sC, vA, sh, kA)) : ∃ n, wY_majority_51 post (nI (ss_sum g c)) (nI c) sC n 0 0 vA sA kA := by
  have hall : ss_sum g c ≤ 372 := Nat.le_trans (ss_sum_le hg) (Nat.mul_le_mul hc (Nat.le_refl 62))
  by_cases ha : 0 < ss_sum g c
  · obtain ⟨i, hi, _⟩ := ss_sum_pos c ha
    exact ⟨c + 1, sy_m51 hc (by omega) ha hall c g 0 0 sA h hg (by omega) (by omega) (ss_cnt_le _ c) hp⟩
  · have e0 : ss_sum g c = 0 := by omega
    have em : ss_mj c (ss_sum g c) c g 0 0 = 0 := by
      rw [e0]
      by_cases hc0 : 0 < c
      · exact ss_mj_0 c g 0 hc0 (ss_sum_0 e0)
      · rw [show c = 0 from by omega]; rfl
    rw [em] at hp
    rw [e0]
    exact ⟨1, br_f (by decide) (br_t (by decide) (hp sA))⟩
end
section
theorem i_vc_majority {k : Nat} {u : SX} {v : SY} (I : i_Rel k u v) (hk : k + 3 ≤ 1536) (v1 : Int32) : wpX_majority (fun r u' => wpY_majority (fun r' v' => r' = r ∧ i_Rel (k + 3) u' v') v v1) u v1 := by
  obtain ⟨c, s, p, tA, sA, oA, rA, dA, yS, yK, hc, hs, hp, rfl, rfl⟩ := I
  unfold wpX_majority wpY_majority
  rcases ss_ix v1 (n := 7) (by decide) with h | ⟨r, hr, rfl⟩
  · exact sx_isRule_b h (br_t rfl (sy_noRule_b h (br_f (by decide) ⟨rfl, ss_rel hc hs hp⟩)))
  · have hg : ∀ i, i < c → ss_S r c p s i ≤ 62 := fun i hi => ss_S_62 (by omega) hi
    have hall : ss_sum (ss_S r c p s) c ≤ 372 := Nat.le_trans (ss_sum_le hg) (Nat.mul_le_mul hc (Nat.le_refl 62))
    exact sx_isRule_o hr (br_f (by decide) (sx_ps hc hr rfl (by omega) hp (fun sh rs od hsh => sx_sum_shares hc hsh ⟨c + 1, sx_m41 hc hall c (ss_S r c p s) 0 0 sh (by omega) hsh hg (by omega) (fun sh' => sy_noRule_o hr (br_t rfl (sy_gv hc hr rfl (by omega) (ss_h9 hp) (fun sh2 hsh2 => sy_m23 hc hsh2 (sy_maj hc hsh2 hg (fun sh3 => ⟨rfl, ss_rel hc hs hp⟩))))))⟩)))
end
