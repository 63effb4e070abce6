noncomputable section
section
variable {r : Nat → Int32} {c : Nat}
/-- columns side by side behind a filled one, not filled and covered, up to this one -/
def roS (r : Nat → Int32) (c : Nat) : Nat → Option Nat
  | 0 => none
  | n + 1 => if fF r c n = true then some 0 else (match roS r c n with | some t => if fF r (c + 1) n = true then some (t + 1) else none | none => none)
def opN (r : Nat → Int32) (c n : Nat) : Nat := (roS r c n).getD 0
/-- how many rooms have been closed, the widest of them -/
def mnN (r : Nat → Int32) (c : Nat) : Nat → Nat
  | 0 => 0
  | n + 1 => mnN r c n + (if fF r c n = true ∧ 0 < opN r c n then 1 else 0)
def wdN (r : Nat → Int32) (c : Nat) : Nat → Nat
  | 0 => 0
  | n + 1 => if fF r c n = true ∧ wdN r c n < opN r c n then opN r c n else wdN r c n
theorem roS_s : ∀ (n t : Nat), roS r c n = some t → t < n ∧ fF r c (n - t - 1) = true ∧ ∀ i, n - t ≤ i → i < n → fF r c i = false ∧ fF r (c + 1) i = true
  | 0, t, h => by cases h
  | n + 1, t, h => by
    unfold roS at h
    split at h
    · next f =>
      cases h
      exact ⟨by omega, f, fun i h1 h2 => absurd h1 (by omega)⟩
    · next f =>
      split at h
      · next t9 e =>
        split at h
        · next g =>
          cases h
          obtain ⟨a1, a2, a3⟩ := roS_s n t9 e
          refine ⟨by omega, by rw [show n + 1 - (t9 + 1) - 1 = n - t9 - 1 by omega]; exact a2, fun i h1 h2 => ?_⟩
          by_cases e2 : i = n
          · subst e2; exact ⟨by simpa using f, g⟩
          · exact a3 i (by omega) (by omega)
        · cases h
      · cases h
theorem rmP_f {k : Nat} (h : fF r c k = true) : rmP r c k = true := by unfold rmP; rw [h]; rfl
theorem rmP_n {k : Nat} (h : fF r c k = false) (g : fF r (c + 1) k = true) : ¬ rmP r c k = true := by unfold rmP; rw [h, g]; decide
theorem rmP_u {k : Nat} (g : fF r (c + 1) k = false) : rmP r c k = true := by unfold rmP; rw [g]; simp
theorem rm_at {n t : Nat} (hn : n < 12) (h : roS r c n = some t) (hp : rmP r c n = true) : rmK r c (n - t) = n := by
  obtain ⟨a1, a2, a3⟩ := roS_s n t h
  exact fstP_eq (12 - (n - t)) (n - t) (by omega) (by omega) hn hp (fun j h1 h2 => rmP_n (a3 j h1 h2).1 (a3 j h1 h2).2)
theorem room_c {n t : Nat} (hn : n < 12) (h : roS r c n = some t) (f : fF r c n = true) : roomN r c (n - t) = t := by
  obtain ⟨a1, a2, a3⟩ := roS_s n t h
  have e := rm_at hn h (rmP_f f)
  unfold roomN
  rw [e]
  by_cases ht : n - t ≠ 0
  · rw [if_pos ⟨ht, a2, hn, f⟩]; omega
  · omega
theorem room_f {n : Nat} (hn : n < 12) (f : fF r c n = true) : roomN r c n = 0 := by
  have e : rmK r c n = n := fstP_eq (12 - n) n (by omega) (Nat.le_refl _) hn (rmP_f f) (fun j h1 h2 => absurd h1 (by omega))
  unfold roomN
  rw [e]
  split <;> omega
theorem room_p {n : Nat} (f : n = 0 ∨ fF r c (n - 1) = false) : roomN r c n = 0 := by
  unfold roomN
  rcases f with f | f
  · rw [if_neg (fun z => z.1 f)]
  · rw [if_neg (fun z => by rw [f] at z; exact absurd z.2.1 (by decide))]
theorem room_u {n t : Nat} (hn : n < 12) (h : roS r c n = some t) (f : fF r c n = false) (g : fF r (c + 1) n = false) : roomN r c (n - t) = 0 := by
  have e := rm_at hn h (rmP_u g)
  unfold roomN
  rw [e, if_neg (fun z => by rw [f] at z; exact absurd z.2.2.2 (by decide))]
theorem room_e {t : Nat} (h : roS r c 12 = some t) : roomN r c (12 - t) = 0 := by
  obtain ⟨a1, a2, a3⟩ := roS_s 12 t h
  have e : rmK r c (12 - t) = 12 := fstP_none (12 - (12 - t)) (12 - t) (by omega) (fun j h1 h2 => rmP_n (a3 j h1 h2).1 (a3 j h1 h2).2)
  unfold roomN
  rw [e, if_neg (fun z => absurd z.2.2.1 (by decide))]
/-- the room that is open -/
def coN (r : Nat → Int32) (c n : Nat) : Nat := match roS r c n with | some (t + 1) => roomN r c (n - (t + 1)) | _ => 0
theorem roS_pf {n : Nat} (h : roS r c (n + 1) = none ∨ ∃ t, roS r c (n + 1) = some (t + 1)) : fF r c n = false := by
  cases e : fF r c n with
  | false => rfl
  | true =>
    have : roS r c (n + 1) = some 0 := by unfold roS; rw [if_pos e]
    rcases h with h | ⟨t, h⟩ <;> rw [this] at h <;> cases h
theorem room_q {n : Nat} (h : roS r c n = none ∨ ∃ t, roS r c n = some (t + 1)) : roomN r c n = 0 := by
  cases n with
  | zero => exact room_p (Or.inl rfl)
  | succ n => exact room_p (Or.inr (roS_pf h))
/-- rooms by where they begin and by where they end -/
theorem rooms_i : ∀ n, n ≤ 12 → (rmI r c n).1 = mnN r c n + (if 0 < coN r c n then 1 else 0) ∧ (rmI r c n).2.1 = max (wdN r c n) (coN r c n)
  | 0, _ => ⟨rfl, rfl⟩
  | n + 1, hn => by
    obtain ⟨i1, i2⟩ := rooms_i n (by omega)
    have hn12 : n < 12 := by omega
    have e : rmI r c (n + 1) = rmS r c n (rmI r c n) := rfl
    have e1 : (rmI r c (n + 1)).1 = (rmI r c n).1 + (if 0 < roomN r c n then 1 else 0) := by rw [e]; rfl
    have e2 : (rmI r c (n + 1)).2.1 = (if (rmI r c n).2.1 < roomN r c n then roomN r c n else (rmI r c n).2.1) := by rw [e]; rfl
    rw [e1, e2, i1, i2]
    cases f : fF r c n with
    | true =>
      have s1 : roS r c (n + 1) = some 0 := by unfold roS; rw [if_pos f]
      have c1 : coN r c (n + 1) = 0 := by unfold coN; rw [s1]
      have r0 := room_f hn12 f
      have m1 : mnN r c (n + 1) = mnN r c n + (if 0 < opN r c n then 1 else 0) := by
        show mnN r c n + (if fF r c n = true ∧ 0 < opN r c n then 1 else 0) = _
        rw [f]
        simp
      have w1 : wdN r c (n + 1) = (if wdN r c n < opN r c n then opN r c n else wdN r c n) := by
        show (if fF r c n = true ∧ wdN r c n < opN r c n then opN r c n else wdN r c n) = _
        rw [f]
        simp
      have c0 : coN r c n = opN r c n := by
        unfold coN opN
        cases s : roS r c n with
        | none => rfl
        | some t =>
          cases t with
          | zero => rfl
          | succ t => exact room_c hn12 s f
      rw [m1, w1, c1, c0, r0]
      constructor
      · simp
      · simp only [Nat.lt_irrefl, if_false, Nat.not_lt_zero]
        split <;> omega
    | false =>
      have m1 : mnN r c (n + 1) = mnN r c n := by
        show mnN r c n + (if fF r c n = true ∧ 0 < opN r c n then 1 else 0) = _
        rw [f]
        simp
      have w1 : wdN r c (n + 1) = wdN r c n := by
        show (if fF r c n = true ∧ wdN r c n < opN r c n then opN r c n else wdN r c n) = _
        rw [f]
        simp
      rw [m1, w1]
      cases s : roS r c n with
      | none =>
        have s1 : roS r c (n + 1) = none := by unfold roS; rw [if_neg (by rw [f]; decide), s]
        have c1 : coN r c (n + 1) = 0 := by unfold coN; rw [s1]
        have c0 : coN r c n = 0 := by unfold coN; rw [s]
        rw [c1, c0, room_q (Or.inl s)]
        simp
      | some t =>
        cases g : fF r (c + 1) n with
        | true =>
          have s1 : roS r c (n + 1) = some (t + 1) := by unfold roS; rw [if_neg (by rw [f]; decide), s]; simp only [g, if_true]
          have c1 : coN r c (n + 1) = roomN r c (n - t) := by unfold coN; rw [s1]; show roomN r c (n + 1 - (t + 1)) = _; rw [show n + 1 - (t + 1) = n - t by omega]
          cases t with
          | zero =>
            have c0 : coN r c n = 0 := by unfold coN; rw [s]
            rw [c1, c0, show n - 0 = n by omega]
            constructor
            · simp
            · rw [Nat.max_zero]
              split <;> omega
          | succ t =>
            have c0 : coN r c n = roomN r c (n - (t + 1)) := by unfold coN; rw [s]
            rw [c1, c0, room_q (Or.inr ⟨t, s⟩)]
            simp
        | false =>
          have s1 : roS r c (n + 1) = none := by unfold roS; rw [if_neg (by rw [f]; decide), s]; simp only [g, Bool.false_eq_true, if_false]
          have c1 : coN r c (n + 1) = 0 := by unfold coN; rw [s1]
          have z := room_u hn12 s f g
          have c0 : coN r c n = 0 := by
            unfold coN; rw [s]
            cases t with
            | zero => rfl
            | succ t => exact z
          have r0 : roomN r c n = 0 := by
            cases t with
            | zero => exact z
            | succ t => exact room_q (Or.inr ⟨t, s⟩)
          rw [c1, c0, r0]
          simp
theorem rooms_w : ∀ n, n ≤ 12 → ((rmI r c n).1 = 0 → (rmI r c n).2.1 = 0 ∧ (rmI r c n).2.2 = -1) ∧ ((rmI r c n).1 ≠ 0 → 0 < (rmI r c n).2.1 ∧ ∃ k, k < 12 ∧ (rmI r c n).2.2 = nI k)
  | 0, _ => ⟨fun _ => ⟨rfl, rfl⟩, fun h => absurd rfl h⟩
  | n + 1, hn => by
    obtain ⟨i1, i2⟩ := rooms_w n (by omega)
    have e : rmI r c (n + 1) = rmS r c n (rmI r c n) := rfl
    have e1 : (rmI r c (n + 1)).1 = (rmI r c n).1 + (if 0 < roomN r c n then 1 else 0) := by rw [e]; rfl
    have e2 : (rmI r c (n + 1)).2.1 = (if (rmI r c n).2.1 < roomN r c n then roomN r c n else (rmI r c n).2.1) := by rw [e]; rfl
    have e3 : (rmI r c (n + 1)).2.2 = (if (rmI r c n).2.1 < roomN r c n then nI n else (rmI r c n).2.2) := by rw [e]; rfl
    rw [e1, e2, e3]
    by_cases p : 0 < roomN r c n
    · rw [if_pos p]
      refine ⟨fun z => by omega, fun _ => ?_⟩
      by_cases q : (rmI r c n).2.1 < roomN r c n
      · rw [if_pos q, if_pos q]
        exact ⟨p, n, by omega, rfl⟩
      · rw [if_neg q, if_neg q]
        exact i2 (fun z => by have := (i1 z).1; omega)
    · rw [if_neg p, if_neg (by omega), if_neg (by omega)]
      exact ⟨i1, i2⟩
theorem rooms_eq : (rmI r c 12).1 = mnN r c 12 ∧ (rmI r c 12).2.1 = wdN r c 12 := by
  obtain ⟨h1, h2⟩ := rooms_i (r := r) (c := c) 12 (Nat.le_refl _)
  have c0 : coN r c 12 = 0 := by
    unfold coN
    cases s : roS r c 12 with
    | none => rfl
    | some t =>
      cases t with
      | zero => rfl
      | succ t => exact room_e s
  rw [c0] at h1 h2
  exact ⟨h1, by rw [h2, Nat.max_zero]⟩
theorem mn_le : ∀ n, mnN r c n ≤ n
  | 0 => Nat.le_refl _
  | n + 1 => by
    show mnN r c n + (if _ then 1 else 0) ≤ n + 1
    have := mn_le n
    split <;> omega
theorem op_le (n : Nat) : opN r c n ≤ n := by
  unfold opN
  cases s : roS r c n with
  | none => exact Nat.zero_le _
  | some t => have := (roS_s n t s).1; show t ≤ n; omega
theorem wd_le : ∀ n, wdN r c n ≤ n
  | 0 => Nat.le_refl _
  | n + 1 => by
    show (if _ then opN r c n else wdN r c n) ≤ n + 1
    have := wd_le n
    have := op_le (r := r) (c := c) n
    split <;> omega
end
end
