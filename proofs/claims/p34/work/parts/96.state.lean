-- needs: 95
noncomputable section
theorem ble_f {a b : Nat} (h : b < a) : Nat.ble a b = false := by
  cases e : Nat.ble a b with
  | true => exact absurd (Nat.le_of_ble_eq_true e) (by omega)
  | false => rfl
theorem blt_f {a b : Nat} (h : b ≤ a) : Nat.blt a b = false := ble_f (Nat.lt_succ_of_le h)
/-- what was saved, if anything was; the earlier states, the earliest first; the text -/
abbrev Sv : Type := Bool × (Nat → Int32) × (Nat → UInt32)
abbrev Hs : Type := Nat × (Nat → Nat → Int32) × (Nat → Nat → UInt32)
abbrev Tx : Type := Nat × Int32 × (Nat → Int32)
/-- the reference's cells hold this state -/
def RS (h : AH) (r : Nat → Int32) (w : Nat → UInt32) (S : Sv) (K : Hs) (q : Int32 × Int32) (T : Tx) : Prop :=
  (h.1 1 = r ∧ h.2.1 5 = w) ∧ (h.1 0 14 = bI (S.1 = true) ∧ (S.1 = true → (∀ j, j < 445 → h.1 2 j = S.2.1 j) ∧ ∀ j, j < 40 → h.2.1 6 j = S.2.2 j)) ∧
  (K.1 ≤ 8 ∧ h.1 0 11 = nI K.1 ∧ ∀ i, i < K.1 → (∀ j, j < 445 → h.1 (10 + i) j = K.2.1 i j) ∧ ∀ j, j < 40 → h.2.1 (19 + i) j = K.2.2 i j) ∧
  (h.1 0 12 = q.1 ∧ h.1 0 13 = q.2) ∧ (h.1 0 15 = 0 ∧ h.1 0 19 = nI T.1 ∧ T.1 ≤ 60 ∧ h.1 0 21 = T.2.1 ∧ h.1 29 = T.2.2)
/-- the other side's cells hold it -/
def CS (h : AH) (r : Nat → Int32) (w : Nat → UInt32) (S : Sv) (K : Hs) (q : Int32 × Int32) (T : Tx) : Prop :=
  Pal h 32 r w ∧ (h.1 31 9 = bI (S.1 = true) ∧ (S.1 = true → Pal h 58 S.2.1 S.2.2)) ∧
  (K.1 ≤ 8 ∧ ∃ N, N < 8 ∧ h.1 100 1 = nI N ∧ h.1 100 2 = nI K.1 ∧ ∀ i, i < K.1 → Pal h (102 + 13 * ((N + 8 - K.1 + i) % 8)) (K.2.1 i) (K.2.2 i)) ∧
  (h.1 71 1 = q.1 ∧ h.1 71 2 = q.2) ∧ (h.1 206 5 = nI T.1 ∧ T.1 ≤ 60 ∧ h.1 206 8 = T.2.1 ∧ h.1 207 = T.2.2)
def IS (B : Nat) (r : Nat → Int32) (w : Nat → UInt32) (S : Sv) (K : Hs) : Prop := Inv B r w ∧ (S.1 = true → Inv B S.2.1 S.2.2) ∧ ∀ i, i < K.1 → Inv B (K.2.1 i) (K.2.2 i)
def pushK (K : Hs) (r : Nat → Int32) (w : Nat → UInt32) : Hs := (min (K.1 + 1) 8, fun i => if i = min K.1 7 then r else K.2.1 (if K.1 = 8 then i + 1 else i), fun i => if i = min K.1 7 then w else K.2.2 (if K.1 = 8 then i + 1 else i))
theorem Inv.le {B B' : Nat} {r : Nat → Int32} {w : Nat → UInt32} (h : Inv B r w) (hB : B ≤ B') (h2 : B' < 2 ^ 30) : Inv B' r w := by
  obtain ⟨h1, ⟨a1, a2, ⟨b1, b2, b3⟩, a4⟩, h3⟩ := h
  exact ⟨h1, ⟨a1, a2, ⟨b1, Nat.le_trans b2 hB, h2⟩, a4⟩, h3⟩
theorem IS.le {B B' : Nat} {r : Nat → Int32} {w : Nat → UInt32} {S : Sv} {K : Hs} (h : IS B r w S K) (hB : B ≤ B') (h2 : B' < 2 ^ 30) : IS B' r w S K := ⟨h.1.le hB h2, fun s => (h.2.1 s).le hB h2, fun i hi => (h.2.2 i hi).le hB h2⟩
theorem IS.to {B : Nat} {r r' : Nat → Int32} {w w' : Nat → UInt32} {S : Sv} {K : Hs} (h : IS B r w S K) (h2 : Inv B r' w') : IS B r' w' S K := ⟨h2, h.2⟩
theorem IS.push {B : Nat} {r r' : Nat → Int32} {w w' : Nat → UInt32} {S : Sv} {K : Hs} (h : IS B r w S K) (hK : K.1 ≤ 8) (h2 : Inv B r' w') : IS B r' w' S (pushK K r w) := by
  refine ⟨h2, h.2.1, fun i hi => ?_⟩
  have hi : i < min (K.1 + 1) 8 := hi
  show Inv B (if i = min K.1 7 then r else K.2.1 (if K.1 = 8 then i + 1 else i)) (if i = min K.1 7 then w else K.2.2 (if K.1 = 8 then i + 1 else i))
  by_cases e : i = min K.1 7
  · rw [if_pos e, if_pos e]; exact h.1
  · rw [if_neg e, if_neg e]
    exact h.2.2 _ (by split <;> omega)
section
variable {h h' : AH} {r r' : Nat → Int32} {w w' : Nat → UInt32} {S : Sv} {K : Hs} {q : Int32 × Int32} {T : Tx}
theorem RS.op {code re de : Int32} {p : Bool} (R : RS h r w S K q T) (H : OqP h h' code re de r' w' p K.1) : RS h' r' w' S (if p = true then pushK K r w else K) (re, de) T := by
  obtain ⟨⟨a1, a2⟩, ⟨b1, b2⟩, ⟨c0, c1, c2⟩, -, e1, e2, e3, e4, e5⟩ := R
  obtain ⟨g1, g2, g3, g4, g5, g6, f1, f2, f3, f4⟩ := H
  refine ⟨⟨g4, g5⟩, ⟨(f1 14 (by decide) (by decide)).trans b1, fun s => ⟨fun j hj => by rw [f2]; exact (b2 s).1 j hj, fun j hj => by rw [f4]; exact (b2 s).2 j hj⟩⟩, ?_, ⟨g2, g3⟩, (f1 15 (by decide) (by decide)).trans e1, (f1 19 (by decide) (by decide)).trans e2, e3, (f1 21 (by decide) (by decide)).trans e4, f3.trans e5⟩
  cases p with
  | false =>
    obtain ⟨s1, s2⟩ : HSame h h' := g6
    exact ⟨c0, s1.trans c1, fun i (hi : i < K.1) => ⟨fun j hj => by rw [(s2 i (by omega)).1]; exact (c2 i hi).1 j hj, fun j hj => by rw [(s2 i (by omega)).2]; exact (c2 i hi).2 j hj⟩⟩
  | true =>
    obtain ⟨s1, s2, s3⟩ : HPush K.1 1 5 h h' := g6
    refine ⟨Nat.min_le_right _ _, s1, fun i hi => ?_⟩
    have hi : i < min (K.1 + 1) 8 := hi
    show (∀ j, j < 445 → h'.1 (10 + i) j = (if i = min K.1 7 then r else K.2.1 (if K.1 = 8 then i + 1 else i)) j) ∧ ∀ j, j < 40 → h'.2.1 (19 + i) j = (if i = min K.1 7 then w else K.2.2 (if K.1 = 8 then i + 1 else i)) j
    by_cases e : i = min K.1 7
    · rw [if_pos e, if_pos e, e]
      exact ⟨fun j hj => (s3.1 j hj).trans (by rw [a1]), fun j hj => (s3.2 j hj).trans (by rw [a2])⟩
    · rw [if_neg e, if_neg e]
      have hi2 : (if K.1 = 8 then i + 1 else i) < K.1 := by split <;> omega
      obtain ⟨t1, t2⟩ := s2 i (by omega)
      exact ⟨fun j hj => (t1 j hj).trans ((c2 _ hi2).1 j hj), fun j hj => (t2 j hj).trans ((c2 _ hi2).2 j hj)⟩
theorem Pal.same {k : Nat} (P : Pal h k r w) (e : ∀ a, k ≤ a → a ≤ k + 12 → h'.1 a = h.1 a ∧ h'.2.1 a = h.2.1 a) : Pal h' k r w := by
  obtain ⟨p1, p2, p3, p4, p5, p6⟩ := P
  have f : ∀ o, o ≤ 12 → h'.1 (k + o) = h.1 (k + o) := fun o ho => (e (k + o) (by omega) (by omega)).1
  refine ⟨fun j hj => by rw [(e k (by omega) (by omega)).1]; exact p1 j hj, fun j hj => by rw [f 1 (by decide)]; exact p2 j hj, fun b hb => ?_, fun b hb hb2 => ?_, fun j hj => by rw [f 11 (by decide)]; exact p5 j hj, fun q p hq hp => by rw [f 12 (by decide)]; exact p6 q p hq hp⟩
  · obtain ⟨a1, a2, a3, a4⟩ := p3 b hb
    refine ⟨by rw [f 2 (by decide)]; exact a1, by rw [f 3 (by decide)]; exact a2, by rw [(e (k + 4) (by omega) (by omega)).2]; exact a3, fun o h2 h8 => ?_⟩
    rw [show k + 3 + o = k + (3 + o) by omega, f (3 + o) (by omega), ← show k + 3 + o = k + (3 + o) by omega]
    exact a4 o h2 h8
  · rw [f 5 (by decide), f 6 (by decide), f 7 (by decide), f 8 (by decide), f 9 (by decide), f 10 (by decide)]
    exact p4 b hb hb2
theorem CS.to (C : CS h r w S K q T) (e : ∀ a, a = 31 ∨ (58 ≤ a ∧ a ≤ 71) ∨ (100 ≤ a ∧ a ≤ 207) → h'.1 a = h.1 a ∧ h'.2.1 a = h.2.1 a) (P : Pal h' 32 r' w') : CS h' r' w' S K q T := by
  obtain ⟨-, ⟨b1, b2⟩, ⟨c0, N, c1, c2, c3, c4⟩, ⟨d1, d2⟩, e1, e2, e3, e4⟩ := C
  have m : ∀ x, x % 8 < 8 := fun x => Nat.mod_lt _ (by decide)
  exact ⟨P, ⟨by rw [(e 31 (by omega)).1]; exact b1, fun s => (b2 s).same (fun a x y => e a (by omega))⟩, ⟨c0, N, c1, by rw [(e 100 (by omega)).1]; exact c2, by rw [(e 100 (by omega)).1]; exact c3, fun i hi => (c4 i hi).same (fun a x y => e a (by have := m (N + 8 - K.1 + i); omega))⟩,
    ⟨by rw [(e 71 (by omega)).1]; exact d1, by rw [(e 71 (by omega)).1]; exact d2⟩, by rw [(e 206 (by omega)).1]; exact e1, e2, by rw [(e 206 (by omega)).1]; exact e3, (e 207 (by omega)).1.trans e4⟩
theorem CS.h2 {x : (Nat → Nat → Int64) × (Nat → Nat → UInt64)} (C : CS h r w S K q T) : CS (h.1, h.2.1, x) r w S K q T := C
/-- a reason is noted -/
theorem CS.wk {f re de : Int32} (C : CS h r w S K q T) : CS (wkH h f re de) r w S K (if f = 3 then (re, de) else q) T := by
  unfold wkH
  split
  · obtain ⟨a1, ⟨b1, b2⟩, ⟨c0, N, c1, c2, c3, c4⟩, ⟨d1, d2⟩, e1, e2, e3, e4⟩ := C
    have e : ∀ a, a ≠ 71 → (hI (hI h 71 1 re) 71 2 de).1 a = h.1 a ∧ (hI (hI h 71 1 re) 71 2 de).2.1 a = h.2.1 a := fun a ha => ⟨by rw [hI_ne ha, hI_ne ha], rfl⟩
    refine ⟨a1.same (fun a x y => e a (by omega)), ⟨by rw [(e 31 (by decide)).1]; exact b1, fun s => (b2 s).same (fun a x y => e a (by omega))⟩, ⟨c0, N, c1, by rw [(e 100 (by decide)).1]; exact c2, by rw [(e 100 (by decide)).1]; exact c3, fun i hi => (c4 i hi).same (fun a x y => e a (by omega))⟩, ⟨?_, ?_⟩, by rw [(e 206 (by decide)).1]; exact e1, e2, by rw [(e 206 (by decide)).1]; exact e3, (e 207 (by decide)).1.trans e4⟩
    · rw [hI_at, upd_ne (by decide), hI_at, upd_eq]
    · rw [hI_at, upd_eq]
  · exact C
/-- the state is remembered -/
theorem CS.rem {N : Nat} (C : CS h r w S K q T) (c1 : N < 8) (c2 : h.1 100 1 = nI N) (g1 : h'.1 100 1 = nI ((N + 1) % 8)) (g2 : h'.1 100 2 = nI (min (K.1 + 1) 8)) (g3 : Pal h' (102 + 13 * N) r w) (F : FrS N h h') : CS h' r w S (pushK K r w) q T := by
  obtain ⟨a1, ⟨b1, b2⟩, ⟨c0, N9, z1, z2, c3, c4⟩, ⟨d1, d2⟩, e1, e2, e3, e4⟩ := C
  have hN : N9 = N := by
    have := z2.symm.trans c2
    exact (nI_eq (by omega) (by omega)).mp this
  subst hN
  have e : ∀ a, a ≠ 100 → (a < 102 + 13 * N9 ∨ 102 + 13 * N9 + 12 < a) → h'.1 a = h.1 a ∧ h'.2.1 a = h.2.1 a := F
  refine ⟨a1.same (fun a x y => e a (by omega) (by omega)), ⟨by rw [(e 31 (by decide) (by omega)).1]; exact b1, fun s => (b2 s).same (fun a x y => e a (by omega) (by omega))⟩, ⟨Nat.min_le_right _ _, (N9 + 1) % 8, Nat.mod_lt _ (by decide), g1, g2, fun i hi => ?_⟩, ⟨by rw [(e 71 (by decide) (by omega)).1]; exact d1, by rw [(e 71 (by decide) (by omega)).1]; exact d2⟩, by rw [(e 206 (by decide) (by omega)).1]; exact e1, e2, by rw [(e 206 (by decide) (by omega)).1]; exact e3, (e 207 (by decide) (by omega)).1.trans e4⟩
  have hi : i < min (K.1 + 1) 8 := hi
  show Pal h' (102 + 13 * (((N9 + 1) % 8 + 8 - min (K.1 + 1) 8 + i) % 8)) (if i = min K.1 7 then r else K.2.1 (if K.1 = 8 then i + 1 else i)) (if i = min K.1 7 then w else K.2.2 (if K.1 = 8 then i + 1 else i))
  by_cases e9 : i = min K.1 7
  · rw [if_pos e9, if_pos e9, show ((N9 + 1) % 8 + 8 - min (K.1 + 1) 8 + i) % 8 = N9 by omega]
    exact g3
  · rw [if_neg e9, if_neg e9]
    have hi2 : (if K.1 = 8 then i + 1 else i) < K.1 := by split <;> omega
    have hne : (N9 + 8 - K.1 + (if K.1 = 8 then i + 1 else i)) % 8 ≠ N9 := by split <;> omega
    have hm : (N9 + 8 - K.1 + (if K.1 = 8 then i + 1 else i)) % 8 < 8 := Nat.mod_lt _ (by decide)
    rw [show ((N9 + 1) % 8 + 8 - min (K.1 + 1) 8 + i) % 8 = (N9 + 8 - K.1 + (if K.1 = 8 then i + 1 else i)) % 8 by split <;> omega]
    exact (c4 _ hi2).same (fun a x y => e a (by omega) (by omega))
end
end
