-- needs: 09
noncomputable section
/-- a region of cells that no reference leaves -/
def refIn (P : Nat → Bool) (v : Value) : Bool := match v with | .ref k => P k | _ => true
def inS (P : Nat → Bool) (st : List Value) : Bool := st.all (refIn P)
def inL (P : Nat → Bool) (lc : LC) : Bool := lc.all (fun q => refIn P q.2)
def cloY (P : Nat → Bool) (y : Lay) : Bool := match y with
  | (0, _, sl) => sl.all (fun s => match s with | t + 3 => P t | _ => true)
  | (5, _, _) => false
  | (6, _, _) => false
  | (7, _, ts) => ts.all P
  | (8, _, ts) => ts.all P
  | (9, _, ts) => ts.all P
  | _ => true
def Clo (P : Nat → Bool) : Prop := ∀ k, P k = true → cloY P (layAt k) = true
/-- nothing outside the region changes, no long, no double -/
def FrX (P : Nat → Bool) (h h' : AH) : Prop := (∀ a, P a = false → h'.1 a = h.1 a ∧ h'.2.1 a = h.2.1 a) ∧ h'.2.2 = h.2.2
theorem FrX.rf {P : Nat → Bool} {h : AH} : FrX P h h := ⟨fun _ _ => ⟨rfl, rfl⟩, rfl⟩
theorem FrX.tr {P : Nat → Bool} {a b c : AH} (h1 : FrX P a b) (h2 : FrX P b c) : FrX P a c := ⟨fun x hx => ⟨((h2.1 x hx).1).trans (h1.1 x hx).1, ((h2.1 x hx).2).trans (h1.1 x hx).2⟩, h2.2.trans h1.2⟩
section
variable {P : Nat → Bool}
theorem FrX.hI {h : AH} {k i : Nat} {x : Int32} (hk : P k = true) : FrX P h (hI h k i x) := ⟨fun a ha => ⟨funext fun j => by
  have : ¬ a = k := fun e => by rw [e, hk] at ha; cases ha
  show (if a = k ∧ j = i then x else h.1 a j) = _
  rw [if_neg (fun q => this q.1)], rfl⟩, rfl⟩
theorem FrX.hF {h : AH} {k i : Nat} {x : UInt32} (hk : P k = true) : FrX P h (hF h k i x) := ⟨fun a ha => ⟨rfl, funext fun j => by
  have : ¬ a = k := fun e => by rw [e, hk] at ha; cases ha
  show (if a = k ∧ j = i then x else h.2.1 a j) = _
  rw [if_neg (fun q => this q.1)]⟩, rfl⟩
theorem FrX.hIr {h : AH} {k : Nat} {f : Nat → Int32} (hk : P k = true) : FrX P h (hIr h k f) := ⟨fun a ha => ⟨funext fun j => by
  have : ¬ a = k := fun e => by rw [e, hk] at ha; cases ha
  show (if a = k then f j else h.1 a j) = _
  rw [if_neg this], rfl⟩, rfl⟩
theorem FrX.hFr {h : AH} {k : Nat} {f : Nat → UInt32} (hk : P k = true) : FrX P h (hFr h k f) := ⟨fun a ha => ⟨rfl, funext fun j => by
  have : ¬ a = k := fun e => by rw [e, hk] at ha; cases ha
  show (if a = k then f j else h.2.1 a j) = _
  rw [if_neg this]⟩, rfl⟩
set_option maxHeartbeats 4000000 in
theorem stA_fr {o : Nat} {ins : Instr} {v : Value} {st st' : List Value} (hw : wfA o ins v = true) (hs : stA ins v st = some st') (hi : inS P st = true) : inS P st' = true := by
  cases ins <;> simp only [stA, reduceCtorEq] at hs
  case iconst n => cases hs; (have hv : refIn P v = true := by cases v <;> first | rfl | (exfalso; simp [wfA] at hw)); simp only [inS, List.all_cons, hv, Bool.true_and]; exact hi
  case bipush n => cases hs; (have hv : refIn P v = true := by cases v <;> first | rfl | (exfalso; simp [wfA] at hw)); simp only [inS, List.all_cons, hv, Bool.true_and]; exact hi
  case sipush n => cases hs; (have hv : refIn P v = true := by cases v <;> first | rfl | (exfalso; simp [wfA] at hw)); simp only [inS, List.all_cons, hv, Bool.true_and]; exact hi
  case ldc n => cases hs; (have hv : refIn P v = true := by cases v <;> first | rfl | (exfalso; simp [wfA] at hw)); simp only [inS, List.all_cons, hv, Bool.true_and]; exact hi
  case ldc2_w n => cases hs; (have hv : refIn P v = true := by cases v <;> first | rfl | (exfalso; simp [wfA] at hw)); simp only [inS, List.all_cons, hv, Bool.true_and]; exact hi
  case fconst n => cases hs; (have hv : refIn P v = true := by cases v <;> first | rfl | (exfalso; simp [wfA] at hw)); simp only [inS, List.all_cons, hv, Bool.true_and]; exact hi
  case dconst n => cases hs; (have hv : refIn P v = true := by cases v <;> first | rfl | (exfalso; simp [wfA] at hw)); simp only [inS, List.all_cons, hv, Bool.true_and]; exact hi
  case lconst n => cases hs; (have hv : refIn P v = true := by cases v <;> first | rfl | (exfalso; simp [wfA] at hw)); simp only [inS, List.all_cons, hv, Bool.true_and]; exact hi
  all_goals
    split at hs
    all_goals first
      | (cases hs; done)
      | (cases hs; simp only [inS, List.all_cons, refIn, Bool.true_and, Bool.and_eq_true] at hi ⊢; first | exact hi | exact ⟨hi.1, hi⟩ | exact hi.2 | (exact ⟨hi.1, hi.1, hi.2⟩) | exact ⟨hi.1, hi.1, hi.2⟩)
      | (split at hs
         all_goals first
           | (cases hs; done)
           | (cases hs; simp only [inS, List.all_cons, refIn, Bool.true_and, Bool.and_eq_true] at hi ⊢; exact hi))
theorem inS_cons {v : Value} {b : List Value} (ha : refIn P v = true) (hb : inS P b = true) : inS P (v :: b) = true := by unfold inS at *; rw [List.all_cons, ha, hb]; rfl
theorem lget_in {lc : LC} {i : Nat} {v : Value} (hg : lget lc i = some v) (hi : inL P lc = true) : refIn P v = true := List.all_eq_true.mp hi (i, v) (lget_mem hg)
theorem lset1_in {lc : LC} {i : Nat} {v : Value} (hv : refIn P v = true) (hi : inL P lc = true) : inL P (lset1 lc i v) = true := List.all_eq_true.mpr fun q hq => by
  unfold lset1 at hq
  rcases List.mem_cons.mp hq with e | e
  · rw [e]; exact hv
  · exact List.all_eq_true.mp hi q (List.mem_filter.mp e).1
theorem lset2_in {lc : LC} {i : Nat} {v : Value} (hv : refIn P v = true) (hi : inL P lc = true) : inL P (lset2 lc i v) = true := List.all_eq_true.mpr fun q hq => by
  unfold lset2 at hq
  rcases List.mem_cons.mp hq with e | e
  · rw [e]; exact hv
  · exact List.all_eq_true.mp hi q (List.mem_filter.mp e).1
set_option maxHeartbeats 4000000 in
theorem stL_fr {ins : Instr} {v : Value} {lc lc' : LC} {st st' : List Value} (hs : stL ins v lc st = some (lc', st')) (hl : inL P lc = true) (hi : inS P st = true) : inL P lc' = true ∧ inS P st' = true := by
  cases ins <;> simp only [stL, reduceCtorEq] at hs
  all_goals
    split at hs
    all_goals first
      | (cases hs; done)
      | (next hg => cases hs; refine ⟨hl, ?_⟩; have h9 := lget_in hg hl; simp only [inS, List.all_cons, h9, Bool.true_and]; exact hi)
      | (cases hs; simp only [inS, List.all_cons, Bool.and_eq_true] at hi; first | exact ⟨lset1_in hi.1 hl, hi.2⟩ | exact ⟨lset2_in hi.1 hl, hi.2⟩)
      | (split at hs
         all_goals first
           | (cases hs; done)
           | (cases hs; exact ⟨lset1_in rfl hl, hi⟩))
theorem fv_in (hC : Clo P) {k ci r2 s : Nat} {sl : List Nat} {x : Int32} (hk : P k = true) (hl : layAt k = (0, ci, sl)) (hs : sl[r2]? = some s) : refIn P (fv s x) = true := by
  have h1 := hC k hk
  rw [hl] at h1
  have h2 := List.all_eq_true.mp h1 s (List.mem_of_getElem? hs)
  match s, h2 with
  | 0, _ => rfl
  | 1, _ => rfl
  | 2, _ => rfl
  | t + 3, h2 => exact h2
theorem ts_in {ts : List Nat} (h1 : ts.all P = true) {i t : Nat} (hs : ts[i]? = some t) : refIn P (.ref t) = true := List.all_eq_true.mp h1 t (List.mem_of_getElem? hs)
set_option maxHeartbeats 4000000 in
theorem stH_fr (hC : Clo P) {ins : Instr} {r1 r2 : Nat} {st st' : List Value} {h h' : AH} (hs : stH ins r1 r2 st h = some (st', h')) (hi : inS P st = true) : FrX P h h' ∧ inS P st' = true := by
  cases ins <;> simp only [stH, reduceCtorEq] at hs
  case getfield =>
    split at hs
    case h_2 => cases hs
    simp only [inS, List.all_cons, refIn, Bool.true_and, Bool.and_eq_true] at hi
    split at hs
    case h_2 => cases hs
    next hl =>
    split at hs
    case isFalse => cases hs
    split at hs
    case h_2 => cases hs
    next he =>
    cases hs
    exact ⟨FrX.rf, inS_cons (fv_in hC hi.1 hl he) hi.2⟩
  case putfield =>
    split at hs
    case h_2 => cases hs
    simp only [inS, List.all_cons, refIn, Bool.true_and, Bool.and_eq_true] at hi
    split at hs
    case h_2 => cases hs
    split at hs
    case isFalse => cases hs
    split at hs
    case h_2 => cases hs
    split at hs
    case isFalse => cases hs
    cases hs
    exact ⟨FrX.hI hi.1, hi.2⟩
  case iaload =>
    split at hs
    case h_2 => cases hs
    simp only [inS, List.all_cons, refIn, Bool.true_and, Bool.and_eq_true] at hi
    split at hs
    case h_2 => cases hs
    split at hs
    case isTrue => cases hs
    cases hs
    exact ⟨FrX.rf, inS_cons rfl hi.2⟩
  case caload =>
    split at hs
    case h_2 => cases hs
    simp only [inS, List.all_cons, refIn, Bool.true_and, Bool.and_eq_true] at hi
    split at hs
    case h_2 => cases hs
    split at hs
    case isTrue => cases hs
    cases hs
    exact ⟨FrX.rf, inS_cons rfl hi.2⟩
  case baload =>
    split at hs
    case h_2 => cases hs
    simp only [inS, List.all_cons, refIn, Bool.true_and, Bool.and_eq_true] at hi
    split at hs
    case h_2 => cases hs
    split at hs
    case isTrue => cases hs
    cases hs
    exact ⟨FrX.rf, inS_cons rfl hi.2⟩
  case faload =>
    split at hs
    case h_2 => cases hs
    simp only [inS, List.all_cons, refIn, Bool.true_and, Bool.and_eq_true] at hi
    split at hs
    case h_2 => cases hs
    split at hs
    case isTrue => cases hs
    cases hs
    exact ⟨FrX.rf, inS_cons rfl hi.2⟩
  case laload =>
    split at hs
    case h_2 => cases hs
    simp only [inS, List.all_cons, refIn, Bool.true_and, Bool.and_eq_true] at hi
    split at hs
    case h_2 => cases hs
    next hl =>
    have h9 := hC _ hi.1
    rw [hl] at h9
    cases h9
  case daload =>
    split at hs
    case h_2 => cases hs
    simp only [inS, List.all_cons, refIn, Bool.true_and, Bool.and_eq_true] at hi
    split at hs
    case h_2 => cases hs
    next hl =>
    have h9 := hC _ hi.1
    rw [hl] at h9
    cases h9
  case lastore =>
    split at hs
    case h_2 => cases hs
    simp only [inS, List.all_cons, refIn, Bool.true_and, Bool.and_eq_true] at hi
    split at hs
    case h_2 => cases hs
    next hl =>
    have h9 := hC _ hi.1
    rw [hl] at h9
    cases h9
  case dastore =>
    split at hs
    case h_2 => cases hs
    simp only [inS, List.all_cons, refIn, Bool.true_and, Bool.and_eq_true] at hi
    split at hs
    case h_2 => cases hs
    next hl =>
    have h9 := hC _ hi.1
    rw [hl] at h9
    cases h9
  case aaload =>
    split at hs
    case h_2 => cases hs
    simp only [inS, List.all_cons, refIn, Bool.true_and, Bool.and_eq_true] at hi
    split at hs
    case h_4 => cases hs
    all_goals
      next hl =>
      split at hs
      case isTrue => cases hs
      split at hs
      case h_2 => cases hs
      next he =>
      cases hs
      have h9 := hC _ hi.1
      rw [hl] at h9
      exact ⟨FrX.rf, inS_cons (ts_in h9 he) hi.2⟩
  case iastore =>
    split at hs
    case h_2 => cases hs
    simp only [inS, List.all_cons, refIn, Bool.true_and, Bool.and_eq_true] at hi
    split at hs
    case h_2 => cases hs
    split at hs
    case isTrue => cases hs
    cases hs
    exact ⟨FrX.hI hi.1, hi.2⟩
  case fastore =>
    split at hs
    case h_2 => cases hs
    simp only [inS, List.all_cons, refIn, Bool.true_and, Bool.and_eq_true] at hi
    split at hs
    case h_2 => cases hs
    split at hs
    case isTrue => cases hs
    cases hs
    exact ⟨FrX.hF hi.1, hi.2⟩
  case castore =>
    split at hs
    case h_2 => cases hs
    simp only [inS, List.all_cons, refIn, Bool.true_and, Bool.and_eq_true] at hi
    split at hs
    case h_2 => cases hs
    split at hs
    case isTrue => cases hs
    split at hs
    case isFalse => cases hs
    cases hs
    exact ⟨FrX.hI hi.1, hi.2⟩
  case bastore =>
    split at hs
    case h_2 => cases hs
    simp only [inS, List.all_cons, refIn, Bool.true_and, Bool.and_eq_true] at hi
    split at hs
    case h_2 => cases hs
    split at hs
    case isTrue => cases hs
    split at hs
    case isFalse => cases hs
    cases hs
    exact ⟨FrX.hI hi.1, hi.2⟩
  case arraylength =>
    split at hs
    case h_2 => cases hs
    simp only [inS, List.all_cons, refIn, Bool.true_and, Bool.and_eq_true] at hi
    split at hs
    case isFalse => cases hs
    cases hs
    exact ⟨FrX.rf, inS_cons rfl hi.2⟩
set_option maxHeartbeats 4000000 in
theorem stP_fr {r3 : Nat} {st st' : List Value} {h h' : AH} (hs : stP r3 st h = some (st', h')) (hi : inS P st = true) : FrX P h h' ∧ inS P st' = true := by
  unfold stP at hs
  split at hs
  all_goals first | (cases hs; done) | skip
  all_goals split at hs
  all_goals first | (cases hs; done) | skip
  all_goals simp only [inS, List.all_cons, refIn, Bool.true_and, Bool.and_eq_true] at hi
  all_goals first
    | (cases hs; exact ⟨FrX.rf, by simp only [inS, List.all_cons, refIn, Bool.true_and]; exact hi⟩)
    | skip
  split at hs
  · cases hs
  · split at hs
    · split at hs
      · cases hs; exact ⟨FrX.hIr hi.1, hi.2.2⟩
      · cases hs
    · split at hs
      · cases hs; exact ⟨FrX.hFr hi.1, hi.2.2⟩
      · cases hs
    · cases hs
theorem inS_take {st : List Value} {n : Nat} (hi : inS P st = true) : inS P (st.take n).reverse = true := List.all_eq_true.mpr fun v hv => List.all_eq_true.mp hi v (List.mem_of_mem_take (List.mem_reverse.mp hv))
theorem inS_drop {st : List Value} {n : Nat} (hi : inS P st = true) : inS P (st.drop n) = true := List.all_eq_true.mpr fun v hv => List.all_eq_true.mp hi v (List.mem_of_mem_drop hv)
theorem inS_app {a b : List Value} (ha : inS P a = true) (hb : inS P b = true) : inS P (a ++ b) = true := by unfold inS at *; rw [List.all_append, ha, hb]; rfl
theorem cArgs_fr {kd na mj : Nat} {st av rest : List Value} (hs : cArgs kd na mj st = some (av, rest)) (hi : inS P st = true) : inS P av = true ∧ inS P rest = true := by
  unfold cArgs at hs
  split at hs
  case isFalse => cases hs
  split at hs
  · cases hs; exact ⟨inS_take hi, inS_drop hi⟩
  · split at hs
    case h_2 => cases hs
    next b r hd =>
    split at hs
    case h_2 => cases hs
    split at hs
    case isFalse => cases hs
    cases hs
    have h9 : inS P (.ref b :: rest) = true := by rw [← hd]; exact inS_drop hi
    simp only [inS, List.all_cons, Bool.and_eq_true] at h9
    exact ⟨inS_cons h9.1 (inS_take hi), h9.2⟩
theorem retv_fr {mj pc : Nat} {st : List Value} {rv : Option Value} (hs : retv mj pc st = some rv) : inS P rv.toList = true := by
  unfold retv at hs
  split at hs
  all_goals first | (cases hs; done) | skip
  all_goals split at hs
  all_goals first | (cases hs; done) | skip
  all_goals first
    | (cases hs; rfl)
    | (split at hs
       · cases hs; rfl
       · cases hs)
theorem args_in {av : List Value} : ∀ {i : Nat}, inS P av = true → inL P (lv_args i av) = true := by
  induction av with
  | nil => intro i _; rfl
  | cons v t ih =>
    intro i hi
    simp only [inS, List.all_cons, Bool.and_eq_true] at hi
    unfold lv_args
    unfold inL
    rw [List.all_cons, hi.1]
    exact ih hi.2
theorem wfC_law {o : Nat} {ins : Instr} {mj na kd : Nat} (h : wfC o ins mj na kd = true) : ¬ mj = mL_law := by
  unfold wfC at h
  simp only [Bool.and_eq_true] at h
  obtain ⟨⟨⟨⟨⟨⟨⟨-, hnl⟩, -⟩, -⟩, -⟩, -⟩, -⟩, -⟩ := h
  intro q
  subst q
  exact absurd hnl (by decide)
set_option maxHeartbeats 4000000 in
theorem run_fr (hC : Clo P) : ∀ (n d mi pc : Nat) (lc : LC) (st : List Value) (h : AH) (c : Cf), run n d mi pc lc st h = some c → ¬ mi = mL_law → inL P lc = true → inS P st = true → FrX P h c.2.2.2 ∧ inL P c.2.1 = true ∧ inS P c.2.2.1 = true
  | 0, _, _, _, _, _, _, _, hr, _, _, _ => by cases hr
  | n + 1, d, mi, pc, lc, st, h, c, hr, hL, hl, hi => by
    unfold run at hr
    split at hr
    · cases hr
    · next ins nx r1 r2 r3 v hcd =>
      split at hr
      · next q hq =>
        have h9 : inS P q.2 = true := by
          cases ins <;> simp only [stB, reduceCtorEq] at hq
          all_goals first
            | (cases hq; exact hi)
            | (rename_i op _; cases op <;> simp only [] at hq <;> (split at hq) <;> first | (cases hq; done) | (cases hq; simp only [inS, List.all_cons, refIn, Bool.true_and, Bool.and_eq_true] at hi ⊢; exact hi))
            | (split at hq
               · cases hq; simp only [inS, List.all_cons, Bool.and_eq_true] at hi ⊢; exact hi.2
               · cases hq)
        exact run_fr hC n _ _ _ _ _ _ _ hr hL hl h9
      · cases hr
    · next ins nx mj na kd v hcd =>
      split at hr
      · cases hr
      · next d' =>
        split at hr
        · cases hr
        · next q hq =>
          split at hr
          · next h8 =>
            split at hr
            · cases hr
            · next c2 hc2 =>
              split at hr
              · cases hr
              · next rv hrv =>
                have hw := (cdT_wf hL hcd).1
                have hw9 : (decide (decode (cB mi) pc = .ok (ins, nx - pc)) && Nat.ble pc nx && (Nat.beq nx (pc + lenI ins) && wfC (cO mi) ins mj na kd)) = true := hw
                simp only [Bool.and_eq_true] at hw9
                obtain ⟨a1, a2⟩ := cArgs_fr (av := q.1) (rest := q.2) hq hi
                obtain ⟨b1, b2, b3⟩ := run_fr hC n _ _ _ _ _ _ _ hc2 (wfC_law hw9.2.2) (args_in a1) rfl
                obtain ⟨c1, c2, c3⟩ := run_fr hC n _ _ _ _ _ _ _ hr hL hl (inS_app (retv_fr hrv) a2)
                exact ⟨b1.tr c1, c2, c3⟩
          · cases hr
    · cases hr
      exact ⟨FrX.rf, hl, hi⟩
    · cases hr
      exact ⟨FrX.rf, hl, hi⟩
    · next en hn2 hn4 hn7 hn9 hcd =>
      split at hr
      · cases hr
      · next c2 hc2 =>
        have key : FrX P h c2.2.2.2 ∧ inL P c2.2.1 = true ∧ inS P c2.2.2.1 = true := by
          have hw := (cdT_wf hL hcd).1
          unfold stp at hc2
          rw [hcd] at hc2
          split at hc2
          · next ins nx r1 r2 r3 v he =>
            cases he
            split at hc2
            · next st' hst =>
              cases hc2
              have hw9 : (decide (decode (cB mi) pc = .ok (ins, nx - pc)) && Nat.ble pc nx && (Nat.beq nx (pc + lenI ins) && wfA (cO mi) ins v)) = true := hw
              simp only [Bool.and_eq_true] at hw9
              exact ⟨FrX.rf, hl, stA_fr hw9.2.2 hst hi⟩
            · cases hc2
          · next ins nx r1 r2 r3 v he =>
            cases he
            split at hc2
            · next lc' st' hst =>
              cases hc2
              exact ⟨FrX.rf, stL_fr hst hl hi⟩
            · cases hc2
          · next ins nx r1 r2 r3 v he =>
            cases he
            split at hc2
            · next st' h' hst =>
              cases hc2
              obtain ⟨a1, a2⟩ := stH_fr hC hst hi
              exact ⟨a1, hl, a2⟩
            · cases hc2
          · next ins nx r1 r2 r3 v he =>
            cases he
            split at hc2
            · next h8 =>
              split at hc2
              · next st' h' hst =>
                cases hc2
                obtain ⟨a1, a2⟩ := stP_fr hst hi
                exact ⟨a1, hl, a2⟩
              · cases hc2
            · cases hc2
          · next ins nx r1 r2 r3 v he =>
            cases he
            split at hc2
            · cases hc2
              simp only [inS, List.all_cons, Bool.and_eq_true] at hi
              exact ⟨FrX.rf, hl, hi.2⟩
            · cases hc2
          · cases hc2
        obtain ⟨k1, k2, k3⟩ := key
        obtain ⟨c1, c2, c3⟩ := run_fr hC n _ _ _ _ _ _ _ hr hL k2 k3
        exact ⟨k1.tr c1, c2, c3⟩
theorem evm_fr (hC : Clo P) {d mj : Nat} {av : List Value} {h h' : AH} {v : Option Value} (hE : EvM d mj av h v h') (hL : ¬ mj = mL_law) (hi : inS P av = true) : FrX P h h' := by
  obtain ⟨n, pc, lc, st, h1, h3⟩ := hE
  exact (run_fr hC n _ _ _ _ _ _ _ h1 hL (args_in hi) rfl).1
theorem wm_fr (hC : Clo P) {d mj : Nat} {av : List Value} {h : AH} {Q : Option Value → AH → Prop} (hE : WM d mj av h Q) (hL : ¬ mj = mL_law) (hi : inS P av = true) : WM d mj av h (fun v h' => Q v h' ∧ FrX P h h') := by
  obtain ⟨v, h', E, q⟩ := hE
  exact ⟨v, h', E, q, evm_fr hC E hL hi⟩
end
/-- the cells of either side -/
def rfP (k : Nat) : Bool := Nat.blt k 31
def clP (k : Nat) : Bool := Nat.ble 31 k && Nat.blt k 212
theorem rf_clo9 : ∀ k ∈ List.range 31, cloY rfP (layAt k) = true := by decide +kernel
theorem cl_clo9 : ∀ k ∈ List.range 212, clP k = true → cloY clP (layAt k) = true := by decide +kernel
theorem rf_clo : Clo rfP := fun k hk => rf_clo9 k (List.mem_range.mpr (Nat.le_of_ble_eq_true hk))
theorem cl_clo : Clo clP := fun k hk => cl_clo9 k (List.mem_range.mpr (by
  unfold clP at hk
  simp only [Bool.and_eq_true] at hk
  exact Nat.le_of_ble_eq_true hk.2)) hk
end
