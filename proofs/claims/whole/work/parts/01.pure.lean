/-! sums and counts below a bound -/
def ss_sum (f : Nat → Nat) : Nat → Nat
  | 0 => 0
  | i + 1 => ss_sum f i + f i
def ss_cnt (P : Nat → Bool) : Nat → Nat
  | 0 => 0
  | i + 1 => ss_cnt P i + (if P i = true then 1 else 0)
theorem ss_sum_congr {f g : Nat → Nat} {c : Nat} (h : ∀ i, i < c → f i = g i) : ss_sum f c = ss_sum g c := by
  induction c with
  | zero => rfl
  | succ c ih =>
    show ss_sum f c + f c = ss_sum g c + g c
    rw [ih (fun i hi => h i (by omega)), h c (by omega)]
theorem ss_sum_le {f : Nat → Nat} {c B : Nat} (h : ∀ i, i < c → f i ≤ B) : ss_sum f c ≤ c * B := by
  induction c with
  | zero => exact Nat.zero_le _
  | succ c ih =>
    have h1 := ih (fun i hi => h i (by omega))
    have h2 := h c (by omega)
    show ss_sum f c + f c ≤ (c + 1) * B
    rw [Nat.add_mul, Nat.one_mul]
    exact Nat.add_le_add h1 h2
theorem ss_sum_mem {f : Nat → Nat} {i : Nat} : ∀ c, i < c → f i ≤ ss_sum f c := by
  intro c
  induction c with
  | zero => intro h; omega
  | succ c ih =>
    intro h
    show f i ≤ ss_sum f c + f c
    by_cases e : i = c
    · subst e; omega
    · have := ih (by omega); omega
theorem ss_sum_0 {f : Nat → Nat} {c : Nat} (h : ss_sum f c = 0) : ∀ i, i < c → f i = 0 := by
  intro i hi
  have := ss_sum_mem (f := f) c hi
  omega
theorem ss_sum_pos {f : Nat → Nat} : ∀ c, 0 < ss_sum f c → ∃ i, i < c ∧ 0 < f i := by
  intro c
  induction c with
  | zero => intro h; exact absurd h (Nat.lt_irrefl 0)
  | succ c ih =>
    intro h
    have h' : 0 < ss_sum f c + f c := h
    by_cases e : 0 < f c
    · exact ⟨c, by omega, e⟩
    · obtain ⟨i, hi, hp⟩ := ih (by omega)
      exact ⟨i, by omega, hp⟩
theorem ss_sum_mul {f : Nat → Nat} (k : Nat) : ∀ c, ss_sum (fun i => f i * k) c = ss_sum f c * k := by
  intro c
  induction c with
  | zero => exact (Nat.zero_mul k).symm
  | succ c ih =>
    show ss_sum (fun i => f i * k) c + f c * k = (ss_sum f c + f c) * k
    rw [ih, Nat.add_mul]
theorem ss_sum_div {x : Nat → Nat} (d : Nat) : ∀ c, ss_sum (fun i => x i / d) c * d ≤ ss_sum x c := by
  intro c
  induction c with
  | zero => exact Nat.le_of_eq (Nat.zero_mul d)
  | succ c ih =>
    show (ss_sum (fun i => x i / d) c + x c / d) * d ≤ ss_sum x c + x c
    rw [Nat.add_mul]
    exact Nat.add_le_add ih (Nat.div_mul_le_self _ _)
/-- one entry taken away -/
theorem ss_sum_upd {f : Nat → Nat} {b : Nat} (z : Nat) : ∀ c, b < c → ss_sum (fun i => if i = b then z else f i) c + f b = ss_sum f c + z := by
  intro c
  induction c with
  | zero => intro h; omega
  | succ c ih =>
    intro h
    show ss_sum (fun i => if i = b then z else f i) c + (if c = b then z else f c) + f b = ss_sum f c + f c + z
    by_cases e : c = b
    · subst e
      have h1 : ss_sum (fun i => if i = c then z else f i) c = ss_sum f c :=
        ss_sum_congr (fun i hi => if_neg (by omega))
      rw [h1, if_pos rfl]; omega
    · have h1 := ih (by omega)
      rw [if_neg e]; omega
theorem ss_cnt_congr {P Q : Nat → Bool} {c : Nat} (h : ∀ i, i < c → P i = Q i) : ss_cnt P c = ss_cnt Q c := by
  induction c with
  | zero => rfl
  | succ c ih =>
    show ss_cnt P c + (if P c = true then 1 else 0) = ss_cnt Q c + (if Q c = true then 1 else 0)
    rw [ih (fun i hi => h i (by omega)), h c (by omega)]
theorem ss_cnt_mono {P Q : Nat → Bool} {c : Nat} (h : ∀ i, i < c → P i = true → Q i = true) : ss_cnt P c ≤ ss_cnt Q c := by
  induction c with
  | zero => exact Nat.le_refl _
  | succ c ih =>
    show ss_cnt P c + (if P c = true then 1 else 0) ≤ ss_cnt Q c + (if Q c = true then 1 else 0)
    have h1 := ih (fun i hi => h i (by omega))
    have h2 := h c (by omega)
    by_cases e : P c = true
    · rw [if_pos e, if_pos (h2 e)]; omega
    · rw [if_neg e]; omega
theorem ss_cnt_le (P : Nat → Bool) : ∀ c, ss_cnt P c ≤ c := by
  intro c
  induction c with
  | zero => exact Nat.le_refl _
  | succ c ih =>
    show ss_cnt P c + (if P c = true then 1 else 0) ≤ c + 1
    by_cases e : P c = true
    · rw [if_pos e]; omega
    · rw [if_neg e]; omega
theorem ss_cnt_add {P Q : Nat → Bool} {b : Nat} (hP : P b = false) (hQ : Q b = true) : ∀ c, b < c → (∀ i, i < c → i ≠ b → Q i = P i) → ss_cnt Q c = ss_cnt P c + 1 := by
  intro c
  induction c with
  | zero => intro h; omega
  | succ c ih =>
    intro hb h
    show ss_cnt Q c + (if Q c = true then 1 else 0) = ss_cnt P c + (if P c = true then 1 else 0) + 1
    by_cases e : b = c
    · subst e
      have h1 : ss_cnt Q b = ss_cnt P b := ss_cnt_congr (fun i hi => h i (by omega) (by omega))
      have h2 : ¬ P b = true := by rw [hP]; decide
      rw [h1, if_pos hQ, if_neg h2]
    · have h1 := ih (by omega) (fun i hi => h i (by omega))
      rw [h1, h c (by omega) (fun z => e z.symm)]
      generalize (if P c = true then 1 else 0) = z
      omega
theorem ss_cnt_lt {P Q : Nat → Bool} {b c : Nat} (hb : b < c) (hP : P b = false) (hQ : Q b = true) (h : ∀ i, i < c → P i = true → Q i = true) : ss_cnt P c < ss_cnt Q c := by
  have h1 : ss_cnt (fun i => if i = b then true else P i) c = ss_cnt P c + 1 :=
    ss_cnt_add hP (if_pos rfl) c hb (fun i _ hi => if_neg hi)
  have h2 : ss_cnt (fun i => if i = b then true else P i) c ≤ ss_cnt Q c := ss_cnt_mono (fun i hi hh => by
    by_cases e : i = b
    · rw [e]; exact hQ
    · rw [if_neg e] at hh; exact h i hi hh)
  omega
theorem ss_cnt_0 {P : Nat → Bool} : ∀ c, (∀ i, i < c → P i = false) → ss_cnt P c = 0 := by
  intro c
  induction c with
  | zero => intro _; rfl
  | succ c ih =>
    intro h
    have h2 : ¬ P c = true := by rw [h c (by omega)]; decide
    show ss_cnt P c + (if P c = true then 1 else 0) = 0
    rw [ih (fun i hi => h i (by omega)), if_neg h2]
theorem ss_cnt_pos {P : Nat → Bool} {c i : Nat} (hi : i < c) (h : P i = true) : 0 < ss_cnt P c := by
  have h0 : ss_cnt (fun _ => false) c = 0 := ss_cnt_0 c (fun _ _ => rfl)
  have := ss_cnt_lt (P := fun _ => false) (Q := P) hi rfl h (fun _ _ z => nomatch z)
  omega
/-! rules 0 to 4: the greatest open quotient -/
def ss_dv (rule k : Nat) : Nat :=
  if rule = 0 then k + 1 else if rule = 1 then 2 * k + 1 else if rule = 2 then (if k = 0 then 7 else 10 * k + 5) else if rule = 3 then k * (k + 1) else k
def ss_tp (rule v : Nat) : Nat := if rule = 3 then v * v else v
def ss_gr (rule v k w l : Nat) : Bool :=
  if ss_dv rule k = 0 ∧ ss_dv rule l = 0 then decide (w < v) else decide (ss_tp rule w * ss_dv rule k < ss_tp rule v * ss_dv rule l)
def ss_pick (rule : Nat) (v g : Nat → Nat) : Nat → Option Nat
  | 0 => none
  | i + 1 => if 0 < v i then (match ss_pick rule v g i with
      | none => some i
      | some b => if ss_gr rule (v i) (g i) (v b) (g b) = true then some i else some b) else ss_pick rule v g i
def ss_q (rule c : Nat) (v : Nat → Nat) : Nat → Nat → Nat
  | 0 => fun _ => 0
  | n + 1 => match ss_pick rule v (ss_q rule c v n) c with
      | none => ss_q rule c v n
      | some b => fun i => if i = b then ss_q rule c v n i + 1 else ss_q rule c v n i
theorem ss_pick_lt {rule : Nat} {v g : Nat → Nat} : ∀ (i b : Nat), ss_pick rule v g i = some b → b < i ∧ 0 < v b := by
  intro i
  induction i with
  | zero => intro b h; exact nomatch h
  | succ i ih =>
    intro b h
    rw [ss_pick] at h
    by_cases hv : 0 < v i
    · rw [if_pos hv] at h
      cases hp : ss_pick rule v g i with
      | none =>
        rw [hp] at h
        cases h
        exact ⟨by omega, hv⟩
      | some d =>
        rw [hp] at h
        have hd := ih d hp
        by_cases hg : ss_gr rule (v i) (g i) (v d) (g d) = true
        · simp only [hg, if_true] at h
          cases h
          exact ⟨by omega, hv⟩
        · simp only [hg] at h
          cases h
          exact ⟨by omega, hd.2⟩
    · rw [if_neg hv] at h
      have := ih b h
      exact ⟨by omega, this.2⟩
theorem ss_pick_congr {rule : Nat} {v g v' g' : Nat → Nat} : ∀ i, (∀ j, j < i → v j = v' j) → (∀ j, j < i → g j = g' j) → ss_pick rule v g i = ss_pick rule v' g' i := by
  intro i
  induction i with
  | zero => intro _ _; rfl
  | succ i ih =>
    intro hv hg
    have h1 := ih (fun j hj => hv j (by omega)) (fun j hj => hg j (by omega))
    rw [ss_pick, ss_pick, h1, hv i (by omega), hg i (by omega)]
    cases hp : ss_pick rule v' g' i with
    | none => rfl
    | some b =>
      have hb := (ss_pick_lt i b hp).1
      dsimp only
      rw [hv b (by omega), hg b (by omega)]
theorem ss_pick_none {rule : Nat} {v g : Nat → Nat} : ∀ i, (∀ j, j < i → v j = 0) → ss_pick rule v g i = none := by
  intro i
  induction i with
  | zero => intro _; rfl
  | succ i ih =>
    intro h
    have h0 := h i (by omega)
    rw [ss_pick, if_neg (by omega)]
    exact ih (fun j hj => h j (by omega))
theorem ss_q_none {rule c n : Nat} {v : Nat → Nat} (h : ss_pick rule v (ss_q rule c v n) c = none) : ss_q rule c v (n + 1) = ss_q rule c v n := by
  rw [ss_q, h]
theorem ss_q_some {rule c n b : Nat} {v : Nat → Nat} (h : ss_pick rule v (ss_q rule c v n) c = some b) : ss_q rule c v (n + 1) = fun i => if i = b then ss_q rule c v n i + 1 else ss_q rule c v n i := by
  rw [ss_q, h]
theorem ss_q_congr {rule c : Nat} {v v' : Nat → Nat} (h : ∀ j, j < c → v j = v' j) : ∀ n, ss_q rule c v n = ss_q rule c v' n := by
  intro n
  induction n with
  | zero => rfl
  | succ n ih => rw [ss_q, ss_q, ih, ss_pick_congr c h (fun _ _ => rfl)]
theorem ss_q_le {rule c : Nat} {v : Nat → Nat} : ∀ n i, ss_q rule c v n i ≤ n := by
  intro n
  induction n with
  | zero => intro i; exact Nat.le_refl _
  | succ n ih =>
    intro i
    have := ih i
    cases hp : ss_pick rule v (ss_q rule c v n) c with
    | none => rw [ss_q_none hp]; omega
    | some b =>
      rw [ss_q_some hp]
      show (if i = b then ss_q rule c v n i + 1 else ss_q rule c v n i) ≤ n + 1
      by_cases e : i = b
      · rw [if_pos e]; omega
      · rw [if_neg e]; omega
theorem ss_q_0 {rule c : Nat} {v : Nat → Nat} (h : ∀ j, j < c → v j = 0) : ∀ n i, ss_q rule c v n i = 0 := by
  intro n
  induction n with
  | zero => intro i; rfl
  | succ n ih => intro i; rw [ss_q_none (ss_pick_none c h)]; exact ih i
