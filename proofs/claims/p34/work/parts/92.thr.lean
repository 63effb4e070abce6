-- needs: 91
noncomputable section
def exP0 : List (Nat × Nat) := [(2, 148), (1, 13), (1, 10), (2, 170), (2, 179), (2, 187), (2, 190), (2, 192), (2, 171), (2, 172), (1, 38), (1, 39), (2, 173), (2, 178), (2, 188), (2, 205), (2, 160), (2, 206), (2, 162), (2, 207), (2, 164), (2, 174), (2, 176), (2, 166), (2, 194), (2, 195), (2, 196), (2, 197), (2, 197), (2, 198), (2, 199), (2, 200), (2, 200), (2, 201), (2, 202), (2, 171), (2, 193), (2, 149), (2, 157), (2, 158), (2, 159), (2, 161), (2, 163), (2, 165), (2, 169), (2, 168), (2, 167)]
def exP1 : List (Nat × Nat) := [(2, 216), (1, 16), (1, 10), (2, 170), (2, 179), (2, 187), (2, 190), (2, 192), (2, 171), (2, 172), (1, 38), (1, 39), (2, 173), (2, 178), (2, 188), (2, 205), (2, 160), (2, 206), (2, 162), (2, 207), (2, 164), (2, 174), (2, 176), (2, 166), (2, 226), (2, 227), (2, 228), (2, 197), (2, 197), (2, 198), (2, 199), (2, 200), (2, 200), (2, 201), (2, 202), (2, 171), (2, 225), (2, 217), (2, 219), (2, 183), (2, 220), (2, 221), (2, 222), (2, 223), (2, 169), (2, 168), (2, 224)]
def exP2 : List (Nat × Nat) := [(2, 231), (1, 17), (1, 10), (2, 170), (2, 179), (2, 187), (2, 190), (2, 192), (2, 171), (2, 172), (1, 38), (1, 39), (2, 173), (2, 178), (2, 188), (2, 205), (2, 160), (2, 206), (2, 162), (2, 207), (2, 164), (2, 174), (2, 176), (2, 166), (3, 1), (3, 2), (3, 3), (2, 197), (2, 197), (2, 198), (2, 199), (2, 200), (2, 200), (2, 201), (2, 202), (2, 171), (3, 0), (2, 232), (2, 234), (2, 185), (2, 235), (2, 236), (2, 237), (2, 238), (2, 169), (2, 168), (2, 239)]
def exP3 : List (Nat × Nat) := [(5, 148), (1, 27), (1, 10), (2, 170), (2, 179), (2, 187), (2, 190), (2, 192), (2, 171), (2, 172), (1, 38), (1, 39), (2, 173), (2, 178), (2, 188), (2, 205), (2, 160), (2, 206), (2, 162), (2, 207), (2, 164), (2, 174), (2, 176), (2, 166), (5, 158), (5, 159), (5, 160), (2, 197), (2, 197), (2, 198), (2, 199), (2, 200), (2, 200), (2, 201), (2, 202), (2, 171), (5, 157), (5, 149), (5, 151), (2, 186), (5, 152), (5, 153), (5, 154), (5, 155), (2, 169), (2, 168), (5, 156)]
def exP4 : List (Nat × Nat) := [(4, 70), (1, 24), (1, 10), (2, 170), (2, 179), (2, 187), (2, 190), (2, 192), (2, 171), (2, 172), (1, 38), (1, 39), (2, 173), (2, 178), (2, 188), (2, 205), (2, 160), (2, 206), (2, 162), (2, 207), (2, 164), (2, 174), (2, 176), (2, 166), (4, 80), (4, 81), (4, 82), (2, 197), (2, 197), (2, 198), (2, 199), (2, 200), (2, 200), (2, 201), (2, 202), (2, 171), (4, 79), (4, 71), (4, 73), (2, 184), (4, 74), (4, 75), (4, 76), (4, 77), (2, 169), (2, 168), (4, 78)]
def exP5 : List (Nat × Nat) := [(5, 222), (1, 30), (1, 10), (2, 170), (2, 179), (2, 187), (2, 190), (2, 192), (2, 171), (2, 172), (1, 38), (1, 39), (2, 173), (2, 178), (2, 188), (2, 205), (2, 160), (2, 206), (2, 162), (2, 207), (2, 164), (2, 174), (2, 176), (2, 166), (5, 224), (5, 225), (5, 226), (2, 197), (2, 197), (2, 198), (2, 199), (2, 200), (2, 200), (2, 201), (2, 202), (2, 171), (5, 223), (5, 203), (5, 215), (2, 181), (5, 209), (5, 210), (5, 212), (5, 208), (2, 169), (2, 168), (5, 207)]
def exN (en : Nat) : String := match en with | 0 => "java/lang/IndexOutOfBoundsException" | 1 => "java/lang/IllegalArgumentException" | 2 => "java/lang/UnsupportedOperationException" | 3 => "java/util/NoSuchElementException" | 4 => "java/lang/IllegalStateException" | _ => "java/lang/ArithmeticException"
def exK (en : Nat) : Nat := match en with | 0 => 129 | 1 => 82 | 2 => 221 | 3 => 93 | 4 => 187 | _ => 250
def exI (en : Nat) : Nat := match en with | 0 => 131 | 1 => 84 | 2 => 223 | 3 => 95 | 4 => 189 | _ => 252
def exP (en : Nat) : List (Nat × Nat) := match en with | 0 => exP0 | 1 => exP1 | 2 => exP2 | 3 => exP3 | 4 => exP4 | _ => exP5
def exC (en : Nat) : Nat × Nat := match en with | 0 => (2, 150) | 1 => (2, 218) | 2 => (2, 233) | 3 => (5, 150) | 4 => (4, 72) | _ => (5, 214)
def exD : List (Nat × Nat) := [(2, 151), (2, 153), (2, 155)]
def exNm : List String := ["java/lang/RuntimeException", "java/lang/Exception"]
theorem tb_list {ws : List Cond} (ps : List (Nat × Nat)) (hp : ws = ps.filterMap (fun q => (tb q.1)[q.2]?)) : ∀ w ∈ ws, w ∈ lw_tbl := by
  intro w hw
  rw [hp] at hw
  obtain ⟨q, -, hq⟩ := List.mem_filterMap.mp hw
  exact tb_in q.1 q.2 hq
def exW (en : Nat) : List Cond := Cond.classLink RX10 (exK en) (exN en) :: Cond.initialized (exN en) :: (vx_at0 RX10 (exI en) (exN en) exNm).filter goodWord
def exB (en : Nat) : List Cond := [Cond.declares (Bundle.init0 "java/lang/RuntimeException"), Cond.declares (Bundle.init0 "java/lang/Exception"), Cond.declares (Bundle.init0 "java/lang/Throwable"), Cond.castable (exN en) (exN en)]
set_option maxRecDepth 100000 in
theorem exW_0 : exW 0 = (exP 0).filterMap (fun q => (tb q.1)[q.2]?) := by decide +kernel
set_option maxRecDepth 100000 in
theorem exW_1 : exW 1 = (exP 1).filterMap (fun q => (tb q.1)[q.2]?) := by decide +kernel
set_option maxRecDepth 100000 in
theorem exW_2 : exW 2 = (exP 2).filterMap (fun q => (tb q.1)[q.2]?) := by decide +kernel
set_option maxRecDepth 100000 in
theorem exW_3 : exW 3 = (exP 3).filterMap (fun q => (tb q.1)[q.2]?) := by decide +kernel
set_option maxRecDepth 100000 in
theorem exW_4 : exW 4 = (exP 4).filterMap (fun q => (tb q.1)[q.2]?) := by decide +kernel
set_option maxRecDepth 100000 in
theorem exW_5 : exW 5 = (exP 5).filterMap (fun q => (tb q.1)[q.2]?) := by decide +kernel
set_option maxRecDepth 100000 in
theorem exG : ∀ en, en < 6 → (exW en).all goodWord = true ∧ ((vx_at0 RX10 (exI en) (exN en) exNm).filter (fun w => !goodWord w)).all (fun w => decide (w ∈ exB en)) = true ∧ (vx_at0 RX10 (exI en) (exN en) exNm).all vx_ot = true ∧ Bundle.fit (exN en) = true := by decide +kernel
theorem exNm_fit : ∀ n ∈ exNm, Bundle.fit n = true := by decide +kernel
theorem exW_tbl : ∀ en, en < 6 → ∀ w ∈ exW en, w ∈ lw_tbl := by
  intro en h
  match en, h with
  | 0, _ => exact tb_list _ exW_0
  | 1, _ => exact tb_list _ exW_1
  | 2, _ => exact tb_list _ exW_2
  | 3, _ => exact tb_list _ exW_3
  | 4, _ => exact tb_list _ exW_4
  | 5, _ => exact tb_list _ exW_5
  | n + 6, h => exact absurd h (by omega)
theorem exW_all {en : Nat} (h : en < 6) : ∀ w ∈ exW en, w ∈ wAll := fun w hw => wA (exW_tbl en h w hw) (List.all_eq_true.mp (exG en h).1 w hw)
set_option maxRecDepth 100000 in
theorem exC_ok : ∀ en, en < 6 → (tb (exC en).1)[(exC en).2]? = some (Cond.castable (exN en) (exN en)) := by decide +kernel
set_option maxRecDepth 100000 in
theorem exD_ok : (tb 2)[151]? = some (Cond.declares (Bundle.init0 "java/lang/RuntimeException")) ∧ (tb 2)[153]? = some (Cond.declares (Bundle.init0 "java/lang/Exception")) ∧ (tb 2)[155]? = some (Cond.declares (Bundle.init0 "java/lang/Throwable")) := by decide +kernel
/-- what a throw reads of the machine beside the words that stay -/
def ZT (base : Nat → Prop) (U : State) : Prop := vx_Zq Bundle.tN "UNASSIGNED_STACK" Bundle.steD (fun q : Nat => base q) U U.heap ∧ vx_Zq Bundle.tN "SUPPRESSED_SENTINEL" Bundle.listD (fun q : Nat => base q) U U.heap ∧ (∀ en, en < 6 → ∀ w ∈ exB en, va_Nw w U) ∧ ∀ en ek, en < 6 → ek < 6 → en ≠ ek → va_Nc (exN en) (exN ek) U
theorem va_NwD {x : MethodName} {s U : State} (hW : s.WarmedH U.vm) (hZ : va_Nw (.declares x) s) : va_Nw (.declares x) U := va_tabs rfl (rfl : (s.setVm U.vm).vm = U.vm) (by rw [Cond.declares_setVm hW.alike]; exact hZ)
theorem ZT.moved {base : Nat → Prop} {s U : State} (z : ZT base s) (hW : s.WarmedH U.vm) (hq : ∀ a : Nat, a < s.heap.size → ¬ base a → U.heap[a]? = s.heap[a]?) : ZT base U := by
  obtain ⟨h1, h2, h3, h4⟩ := z
  refine ⟨vx_Zq.moved hW.alike (h1.kept hq), vx_Zq.moved hW.alike (h2.kept hq), fun en he w hw => ?_, fun en ek a b c => (h4 en ek a b c).moved hW.alike⟩
  have h5 := h3 en he w hw
  unfold exB at hw
  simp only [List.mem_cons, List.not_mem_nil, or_false] at hw
  rcases hw with e | e | e | e <;> subst e
  · exact va_NwD hW h5
  · exact va_NwD hW h5
  · exact va_NwD hW h5
  · exact va_Nw.warmC hW h5
/-- a method's end: it answers, or throws a thing of this number -/
abbrev Out : Type := (Option Value × AH) ⊕ (Nat × AH)
/-- here a new thing of this number is made and thrown -/
def thB (mi pc en : Nat) : Bool := Nat.beq (cO mi) 10 && Nat.blt en 6 && decide (decode (cB mi) pc = .ok (.new (exK en), 3)) && decide (decode (cB mi) (pc + 3) = .ok (.dup, 1)) && decide (decode (cB mi) (pc + 4) = .ok (.invokespecial (exI en), 3)) && decide (decode (cB mi) (pc + 7) = .ok (.athrow, 1))
/-- as run, but on to a return or a throw, over calls that may throw; n bounds these -/
def RT : Nat → Nat → Nat → Nat → LC → List Value → AH → Out → Prop
  | 0, _, _, _, _, _, _, _ => False
  | n + 1, d, mi, pc, lc, st, h, o => ∃ (n1 pc1 : Nat) (lc1 : LC) (st1 : List Value) (h1 : AH), run n1 d mi pc lc st h = some (pc1, lc1, st1, h1) ∧
    ((∃ v, retv mi pc1 st1 = some v ∧ o = .inl (v, h1)) ∨
     (∃ en, thB mi pc1 en = true ∧ (st1.map fun v => v.category).sum ≤ 8 ∧ o = .inr (en, h1)) ∨
     (∃ (ins : Instr) (nx mj na : Nat) (w : Value) (d' : Nat) (q : List Value × List Value) (o1 : Out), d = d' + 1 ∧ wfE mi pc1 (4, ins, nx, mj, na, 0, w) = true ∧ cArgs 0 na mj st1 = some q ∧ (q.2.map fun v => v.category).sum ≤ 8 ∧ (q.1.map fun v => v.category).sum ≤ cM mj ∧ RT n d' mj 0 (lv_args 0 q.1) [] h1 o1 ∧
       ((∃ v h2, o1 = .inl (v, h2) ∧ RT n d mi nx lc1 (v.toList ++ q.2) h2 o) ∨ ∃ en h2, o1 = .inr (en, h2) ∧ o = .inr (en, h2))))
/-- what is made from here on may be written -/
def HB (A : Nat → Prop) (U : State) : Prop := ∀ q : Nat, U.heap.size ≤ q → A q
theorem HB.le {A : Nat → Prop} {U V : State} (h : HB A U) (h2 : U.heap.size ≤ V.heap.size) : HB A V := fun q hq => h q (Nat.le_trans h2 hq)
section
variable {p : Program} {l : Launch} {e : Env} {R : Room} {s : State} {m : MethodId} {args : Array Value} {below : List Frame} {meth : Method} {c : Code} {H H0 : Heap} {locs : List Loc} {cells slots : Nat} {Q : State → Prop} {ls : Array Slot} {D : va_G} {ca : Nat → ClassId} {ad : Nat → Nat} {base : Nat → Prop}
def PcT (D : va_G) (ca : Nat → ClassId) (ad : Nat → Nat) (base : Nat → Prop) (av : List Value) (h : AH) : Array Value → State → Prop := va_Pc (av.map (em ad)) (fun U => (va_P D vcls (wsOf ca ad h) U.heap ∧ va_K D vcls (tysOf ca) U) ∧ ZT base U ∧ HB base U)
def QoX (D : va_G) (ca : Nat → ClassId) (ad : Nat → Nat) (base : Nat → Prop) (o : Out) : Array Value → State → Outcome → State → Prop := match o with | .inl q => QcX D ca ad base q.1 q.2 | .inr _ => fun _ _ _ _ => False
def XoX (D : va_G) (ca : Nat → ClassId) (ad : Nat → Nat) (base : Nat → Prop) (o : Out) : String → State → State → Prop := match o with | .inl _ => fun _ _ _ => False | .inr q => fun E st t => E = exN q.1 ∧ va_P D vcls (wsOf ca ad q.2) t.heap ∧ va_F (fun q : Nat => base q) st t
def rmT (d k : Nat) : Room := { frames := d + 7, cells := k, slots := 6 * k, locals := 60 * (d + 1) + 120 }
def kO (o : Out) : Nat := match o with | .inl _ => 0 | .inr _ => 1
theorem kO_le (o : Out) : kO o ≤ 1 := by
  cases o
  · exact Nat.zero_le _
  · exact Nat.le_refl _
theorem PcT_blind {av : List Value} {h : AH} : FrameBlind (PcT D ca ad base av h) := fun a U g mk q => ⟨q.1, ⟨q.2.1.1, va_K.moved (u := U) (U := U.calling g mk a) (Vm.Alike.refl U.vm) q.2.1.2⟩, q.2.2.1.moved (U := U.calling g mk a) (State.WarmedH.refl U) (fun _ _ _ => rfl), q.2.2.2⟩
theorem callXT {mc1 ms1 pc : Nat} {st0 rest : List Value} {a : Array Value} {o1 : Out} (hr : vx_Run p l e R s m args below meth c H locs cells slots mc1 ms1 (F0 m pc ls st0) (rest.map (em ad)) (QoX D ca ad base o1 a) (XoX D ca ad base o1) (fun q : Nat => base q)) {A0 : Nat → Prop} (hA0 : ∀ q, base q → A0 q) (hS : va_S A0 H0 H locs)
    (k1 : ∀ (v : Option Value) (h2 : AH), o1 = .inl (v, h2) → ∀ (H1 : Heap) (locs1 : List Loc), va_P D vcls (wsOf ca ad h2) H1 → va_S (fun q : Nat => base q) H H1 [] → va_S A0 H0 H1 locs1 → W p l e R s m args below meth c H1 locs1 (cells + mc1) (slots + ms1) Q (F0 m (pc + 3) ls ((v.toList ++ rest).map (em ad))))
    (k2 : ∀ (en : Nat) (h2 : AH), o1 = .inr (en, h2) → ∀ (H1 : Heap) (locs1 : List Loc) (ce : Cell) (q9 : Addr), va_P D vcls (wsOf ca ad h2) H1 → va_S A0 H0 H1 locs1 → H1[q9]? = some ce → ce.vm = .none → s.vm.findClass (exN en) = some ce.cls → vx_W p l e R s m args below meth c H1 locs1 (cells + mc1) (slots + ms1) Q (F0 m pc ls (rest.map (em ad))) q9) : W p l e R s m args below meth c H locs cells slots Q (F0 m pc ls st0) := by
  intro T hT X
  rcases hr T hT X with ⟨v9, st₀, t, T', L, h0, X', hL, e1, e2, hq, st⟩ | ⟨q9, st₀, t, T', L, E, ce, h0, X', hL, e1, e2, hq, hce, hcv, hcl, st⟩
  · match o1, hq with
    | .inl (rv, h2), hq =>
      obtain ⟨⟨hv, hp⟩, hz, hk⟩ := hq
      have hv : v9 = rv.map (em ad) := by cases hv; rfl
      subst hv
      rw [h0] at hz hk
      obtain ⟨t2, a1, b1⟩ := k1 rv h2 rfl T'.heap (locs ++ L) (by rw [e1]; exact hp) ⟨by rw [e1]; exact hz, fun q h1 h2 => by rw [e1]; exact hk q h1 h2, fun _ h => (by cases h)⟩
        ⟨Nat.le_trans hS.1 (by rw [e1]; exact hz), fun q h1 h2 => by rw [e1, hk q (Nat.lt_of_lt_of_le h1 hS.1) (fun z => h2 (hA0 q z))]; exact hS.2.1 q h1 h2, fun q hq => by
          rcases List.mem_append.mp hq with h | h
          · exact hS.2.2 q h
          · exact hA0 _ (hL q h)⟩ T' rfl X'
      refine ⟨t2, st t2 ?_, b1⟩
      have e9 : (rv.map (em ad)).toList ++ rest.map (em ad) = (rv.toList ++ rest).map (em ad) := by cases rv <;> simp
      show Steps p.tables e below (T'.setTop { F0 m pc ls st0 with pc := pc + 3, stack := (rv.map (em ad)).toList ++ rest.map (em ad) }) t2
      rw [e9]
      exact a1
    | .inr _, hq => exact absurd hq (fun z => z)
  · match o1, hq with
    | .inl _, hq => exact absurd hq (fun z => z)
    | .inr (en, h2), hq =>
      obtain ⟨rfl, hp, hz, hk⟩ := hq
      rw [h0] at hz hk
      obtain ⟨t2, a1, b1⟩ := k2 en h2 rfl T'.heap (locs ++ L) ce q9 (by rw [e1]; exact hp)
        ⟨Nat.le_trans hS.1 (by rw [e1]; exact hz), fun q h1 h2 => by rw [e1, hk q (Nat.lt_of_lt_of_le h1 hS.1) (fun z => h2 (hA0 q z))]; exact hS.2.1 q h1 h2, fun q hq => by
          rcases List.mem_append.mp hq with h | h
          · exact hS.2.2 q h
          · exact hA0 _ (hL q h)⟩ (by rw [e1]; exact hce) hcv hcl T' rfl X'
      exact ⟨t2, st.trans a1, b1⟩
set_option maxHeartbeats 4000000 in
/-- a call of a method that may throw -/
theorem sCT {mi pc nx mj na d' n9 : Nat} {ins : Instr} {v : Value} {st : List Value} {q : List Value × List Value} {o1 : Out} {h : AH} (hx : p.tables.exec = Jvm.exec) (hb : c.code = cB mi) (hml : c.maxLocals = cM mi) (hown : s.vm.findClass (oN (cO mi)) = some m.cls) (hts : ∀ w ∈ wAll, w.before args s = true)
    (hK : va_K D vcls (tysOf ca) s) (hZ : ZT base s) (hbs : ∀ q : Nat, H.size ≤ q → base q) (hP : va_P D vcls (wsOf ca ad h) H) {A0 : Nat → Prop} (hA0 : ∀ q, base q → A0 q) (hS : va_S A0 s.heap H locs) (hSb : ∀ a : Nat, a < s.heap.size → ¬ base a → H[a]? = s.heap[a]?) (hl : ls.size = cM mi) (hRf : d' + 8 ≤ R.frames) (hRl : 60 * (d' + 2) + 120 ≤ R.locals) (hc : cells + n9 ≤ R.cells) (hsl : slots + 6 * n9 ≤ R.slots)
    (hw : wfE mi pc (4, ins, nx, mj, na, 0, v) = true) (ha : cArgs 0 na mj st = some q) (h8 : (q.2.map fun v => v.category).sum ≤ 8)
    (hM : vx_Met l (cY mj) (wsM mj) (rmT d' n9) (PcT D ca ad base q.1 h) (QoX D ca ad base o1) (XoX D ca ad base o1) (n9) (6 * n9) (fun a : Nat => base a))
    (k1 : ∀ (v : Option Value) (h2 : AH), o1 = .inl (v, h2) → ∀ (H1 : Heap) (locs1 : List Loc), va_P D vcls (wsOf ca ad h2) H1 → va_S (fun q : Nat => base q) H H1 [] → va_S A0 s.heap H1 locs1 → W p l e R s m args below meth c H1 locs1 (cells + n9) (slots + 6 * n9) Q (F0 m nx ls ((v.toList ++ q.2).map (em ad))))
    (k2 : ∀ (en : Nat) (h2 : AH), o1 = .inr (en, h2) → ∀ (H1 : Heap) (locs1 : List Loc) (ce : Cell) (q9 : Addr), va_P D vcls (wsOf ca ad h2) H1 → va_S A0 s.heap H1 locs1 → H1[q9]? = some ce → ce.vm = .none → s.vm.findClass (exN en) = some ce.cls → vx_W p l e R s m args below meth c H1 locs1 (cells + n9) (slots + 6 * n9) Q (F0 m pc ls (q.2.map (em ad))) q9) : W p l e R s m args below meth c H locs cells slots Q (F0 m pc ls (st.map (em ad))) := by
  have hw9 : (decide (decode (cB mi) pc = .ok (ins, nx - pc)) && Nat.ble pc nx && (Nat.beq nx (pc + lenI ins) && wfC (cO mi) ins mj na 0)) = true := hw
  clear hw
  simp only [Bool.and_eq_true, decide_eq_true_eq] at hw9
  obtain ⟨⟨hdg0, -⟩, hnx0, h3⟩ := hw9
  have hnx := Nat.eq_of_beq_eq_true hnx0
  have hdg : decode (cB mi) pc = .ok (ins, lenI ins) := by rw [hdg0, hnx, Nat.add_sub_cancel_left]
  clear hdg0 hnx0
  subst hnx
  unfold wfC at h3
  simp only [Bool.and_eq_true, decide_eq_true_eq] at h3
  obtain ⟨⟨⟨⟨⟨⟨⟨⟨hmp, hkd⟩, hnl⟩, hmh⟩, hnp⟩, hcd⟩, hmn⟩, hpa⟩, hm16⟩ := h3
  have hm16 : cM mj ≤ 16 := Nat.le_of_ble_eq_true hm16
  have hmn : mj < nMeth := Nat.le_of_ble_eq_true hmn
  have hcls : (cY mj).cls = oN (cO mj) := oN_ok mj (List.mem_range.mpr hmn)
  have hini : Cond.initialized (cY mj).cls ∈ wAll := by
    obtain ⟨z, hz, hb9⟩ := any2 hnp
    have h5 := tb_in _ _ (nP_ok z hz)
    rw [Nat.eq_of_beq_eq_true hb9, ← hcls] at h5
    exact wA h5 rfl
  have hcode : Cond.code (cY mj) (cB mj) (cM mj) (cR mj) ∈ wAll := by
    obtain ⟨z, hz, hb9⟩ := any2 hcd
    have := Nat.eq_of_beq_eq_true hb9
    subst this
    exact wA (cdd_ok z hz) rfl
  have hwsM : ∀ w ∈ wsM mj, w ∈ wAll := fun w hw => by
    rcases List.mem_cons.mp hw with h | h
    · rw [h]; exact hcode
    · exact h
  obtain ⟨zm, hzm, hbm⟩ := any2 hmp
  simp only [Bool.and_eq_true] at hbm
  obtain ⟨⟨hm1, hm2⟩, hm3⟩ := hbm
  have hml9 := tb_in _ _ (mP_ok zm hzm)
  rw [Nat.eq_of_beq_eq_true hm1, Nat.eq_of_beq_eq_true hm3] at hml9
  unfold cArgs at ha
  split at ha
  case isFalse => cases ha
  rename_i hna
  have hlen : (((st.take na).reverse).map (em ad)).length = na := by simp; omega
  have hroom : (rmT d' n9).frames + 1 ≤ R.frames ∧ 8 + (cM mj + 11) + (rmT d' n9).locals ≤ R.locals := ⟨hRf, by show 8 + (cM mj + 11) + (60 * (d' + 1) + 120) ≤ _; omega⟩
  have hPre : ∀ U : State, U.heap = H → s.WarmedH U.vm → (va_P D vcls (wsOf ca ad h) U.heap ∧ va_K D vcls (tysOf ca) U) ∧ ZT base U ∧ HB base U := fun U hU hW => ⟨⟨by rw [hU]; exact hP, va_K.moved hW.alike hK⟩, hZ.moved hW (fun a h1 h2 => by rw [hU]; exact hSb a h1 h2), fun q hq => hbs q (by rw [← hU]; exact hq)⟩
  cases ins <;> simp only [reduceCtorEq, Bool.false_eq_true, Bool.and_eq_true, decide_eq_true_eq] at hkd
  case invokevirtual i =>
    obtain ⟨⟨⟨⟨-, hko⟩, hkc⟩, hip⟩, hsp⟩ := hkd
    have hko : kOf (cO mj) < 9 := Nat.le_of_ble_eq_true hko
    rw [Nat.eq_of_beq_eq_true hm2] at hml9
    have hinst : Cond.instanceMethod (cY mj) ∈ wAll := by
      obtain ⟨z, hz, hb9⟩ := any2 hip
      have h5 := tb_in _ _ (iP_ok z hz)
      rw [Nat.eq_of_beq_eq_true hb9] at h5
      exact wA h5 rfl
    have hsel : Cond.selects (cY mj).cls (cY mj) (cY mj) ∈ wAll := by
      obtain ⟨z, hz, hb9⟩ := any2 hsp
      have h5 := tb_in _ _ (sP_ok z hz)
      rw [Nat.eq_of_beq_eq_true hb9] at h5
      exact wA h5 rfl
    split at ha
    · next hz => cases hz
    · split at ha
      case h_2 => cases ha
      rename_i b r hdrop
      split at ha
      case h_2 => cases ha
      rename_i ci sl hlay
      split at ha
      case isFalse => cases ha
      rename_i hci
      cases ha
      subst hci
      obtain ⟨hkb, -⟩ := lay_in hlay (by omega)
      have he := ws_at (ca := ca) (ad := ad) hkb h
      rw [hlay] at he
      have hst : st.map (em ad) = (((st.take na).reverse).map (em ad)).reverse ++ .ref (ad b) :: r.map (em ad) := by
        rw [← List.map_reverse, List.reverse_reverse]
        conv => lhs; rw [← List.take_append_drop na st, hdrop]
        rw [List.map_append]
        rfl
      have hrecv := va_recv hK hP (vcls_at _ hko) he
      refine callXT (rest := r) (vx_runV (As := ((st.take na).reverse).map (em ad)) (Ts := wAll) (C := (cY mj).cls) (ws := wsM mj) (rm := rmT d' n9) (n := na) (bytes := cB mj) (maxL := cM mj) (ret := cR mj) ⟨hx, hb, hml, hown, hts⟩ hM
        (cwV na hts (gAll (fun w hw => ?_)) rfl rfl rfl ⟨rfl, hmh.1, hmh.2, hpa⟩ hroom)
        ⟨PcT_blind, (by rw [← hkc]; exact hrecv), fun U hU hW => ⟨rfl, hPre U hU hW⟩⟩ rfl hlen hl hst (lv_room (by rw [em_cats]; exact h8)) hdg ⟨hc, hsl⟩) hA0 hS k1 k2
      unfold wsV at hw
      rcases List.mem_append.mp hw with h | h
      · simp only [List.mem_cons, List.not_mem_nil, or_false] at h
        rcases h with h | h | h | h <;> rw [h]
        · exact wA hml9 rfl
        · exact hinst
        · exact hsel
        · exact hini
      · exact hwsM w h
  case invokestatic i => exact absurd hkd.1 (by decide)
/-- THE SIMULATION over throws -/
def SimT (l : Launch) (D : va_G) (ca : Nat → ClassId) (ad : Nat → Nat) (base : Nat → Prop) (n : Nat) : Prop := ∀ (d mi pc : Nat) (lc : LC) (st : List Value) (h : AH) (o : Out), RT n d mi pc lc st h o → ¬ mi = mL_law →
  ∀ (p : Program) (e : Env) (R : Room) (s : State) (m : MethodId) (args : Array Value) (below : List Frame) (meth : Method) (c : Code) (H : Heap) (locs : List Loc) (cells slots mc ms : Nat) (ls : Array Slot),
    p.tables.exec = Jvm.exec → c.code = cB mi → c.maxLocals = cM mi → meth.sig.returnType = cR mi → meth.locks = false → (∀ x ∈ c.exceptionTable.toList, False) → s.vm.findClass (oN (cO mi)) = some m.cls → (∀ w ∈ wAll, w.before args s = true) → va_K D vcls (tysOf ca) s → AdOk base ad → ZT base s → HB base s → d + 7 ≤ R.frames → 60 * (d + 1) + 120 ≤ R.locals → mc ≤ R.cells → ms ≤ R.slots → cells + kO o ≤ mc → slots + 6 * kO o ≤ ms →
    va_P D vcls (wsOf ca ad h) H → va_S (fun q : Nat => base q) s.heap H locs → lv_has ls (cM mi) (lm ad lc) →
    W p l e R s m args below meth c H locs cells slots (vx_MQ below (QoX D ca ad base o) (XoX D ca ad base o) args s mc ms (fun a : Nat => base a)) (F0 m pc ls (st.map (em ad)))
set_option maxHeartbeats 4000000 in
theorem metT {n d mj : Nat} (hSim : SimT l D ca ad base n) (hL : ¬ mj = mL_law) (hmj : mj < nMeth) (hpl : plainName (cY mj).cls = true) {av : List Value} {h : AH} {o : Out} (hcat : (av.map fun v => v.category).sum ≤ cM mj) (hrt : RT n d mj 0 (lv_args 0 av) [] h o) (hA : AdOk base ad) :
    vx_Met l (cY mj) (wsM mj) (rmT d (kO o)) (PcT D ca ad base av h) (QoX D ca ad base o) (XoX D ca ad base o) (kO o) (6 * kO o) (fun a : Nat => base a) := by
  refine vx_ofW (cc := cB mj) (maxL := cM mj) (ret := cR mj) hpl rfl ?_
  intro p e s m args below meth c s₁ B hml hemp hv
  obtain ⟨rfl, ⟨hP, hK⟩, hZ, hbs⟩ := hv
  have hts := atoms_spec (ws := wsM mj) B.pre
  have hown : s.vm.findClass (oN (cO mj)) = some m.cls := by rw [← oN_ok mj (List.mem_range.mpr hmj)]; exact findClass_of_methodNamed B.named
  have hl := lv_entry (av.map (em ad)) (n := cM mj) (by rw [sl_len, em_cats]; exact hcat)
  rw [lg_entry_eq]
  generalize (lg_sl (av.map (em ad)) ++ List.replicate (cM mj - (lg_sl (av.map (em ad))).length) Slot.unset).toArray = ls at hl ⊢
  rw [args_em] at hl
  exact hSim d mj 0 _ [] h o hrt hL p e (rmT d (kO o)) s m _ below meth c s.heap [] 0 0 (kO o) (6 * kO o) ls B.exec B.bytes hml B.returns B.notSynchronized hemp hown (fun w hw => hts w (List.mem_cons_of_mem _ hw)) hK hA hZ hbs (Nat.le_refl _) (Nat.le_refl _) (Nat.le_refl _) (Nat.le_refl _) (by omega) (by omega) hP va_S.rf hl
theorem pn_ok : ∀ k, k < 9 → plainName (cC k) = true := by decide +kernel
theorem wfC_pl {o : Nat} {ins : Instr} {mj na : Nat} (h : wfC o ins mj na 0 = true) : mj < nMeth ∧ plainName (cY mj).cls = true := by
  unfold wfC at h
  simp only [Bool.and_eq_true, decide_eq_true_eq] at h
  obtain ⟨⟨⟨⟨⟨⟨⟨⟨-, hkd⟩, -⟩, -⟩, -⟩, -⟩, hmn⟩, -⟩, -⟩ := h
  refine ⟨Nat.le_of_ble_eq_true hmn, ?_⟩
  cases ins <;> simp only [reduceCtorEq, Bool.false_eq_true, Bool.and_eq_true, decide_eq_true_eq] at hkd
  case invokevirtual i =>
    obtain ⟨⟨⟨⟨-, hko⟩, hkc⟩, -⟩, -⟩ := hkd
    rw [← hkc]
    exact pn_ok _ (Nat.le_of_ble_eq_true hko)
  case invokestatic i => exact absurd hkd.1 (by decide)
set_option maxHeartbeats 4000000 in
theorem simT (hfl : l.stackTraces = false) (n : Nat) : SimT l D ca ad base n := by
  induction n with
  | zero =>
    intro d mi pc lc st h o hrt
    exact absurd hrt (fun z => z)
  | succ n ih =>
    intro d mi pc lc st h o hrt hL p e R s m args below meth c H locs cells slots mc ms ls hx hb hml hr hlk hemp hown hts hK hA hZ hbs hRf hRl hmc hms hc hsl hP hS hl
    obtain ⟨n1, pc1, lc1, st1, h1, hrun, hcase⟩ := hrt
    refine sim n1 d mi pc lc st h _ hrun hL p e R s m args below meth c s.heap H locs cells slots _ ls hx hb hml hown hts hK hA (by omega) (by omega) (by omega) (by omega) hP hS hl (fun H1 locs1 ls1 hP1 hS1 hl1 => ?_)
    rcases hcase with ⟨v, hv, rfl⟩ | ⟨en, hth, h8, rfl⟩ | ⟨ins, nx, mj, na, w, d', q, o1, rfl, hw, ha, h8, hcm, hrt1, hk⟩
    · refine vx_ret (W.widen (show cells ≤ mc by omega) (show slots ≤ ms by omega) ?_)
      exact sR hL hv hx hb hr hlk (fun t ht hW => ⟨⟨rfl, by rw [ht]; exact hP1⟩, hS1.F ht⟩) hS1.2.2
    · unfold thB at hth
      simp only [Bool.and_eq_true, decide_eq_true_eq] at hth
      obtain ⟨⟨⟨⟨⟨ho, hen⟩, d0⟩, d3⟩, d4⟩, d7⟩ := hth
      have hen : en < 6 := Nat.le_of_ble_eq_true hen
      have hc : cells + 1 ≤ mc := hc
      have hsl : slots + 6 * 1 ≤ ms := hsl
      have ho := Nat.eq_of_beq_eq_true ho
      obtain ⟨-, g2, g3, g4⟩ := exG en hen
      have hwd : ∀ w ∈ exW en, w.before args s = true := fun w hw => hts w (exW_all hen w hw)
      have hat : ∀ w ∈ vx_at0 RX10 (exI en) (exN en) exNm, w.before args s = true := vx_hat (B := exB en) (fun w hw => hwd w (List.mem_cons_of_mem _ (List.mem_cons_of_mem _ hw))) (fun w hw => of_decide_eq_true (List.all_eq_true.mp g2 w hw)) (fun w hw => by
        have h5 := hZ.2.2.1 en hen w hw
        have hot : w.onTables = true := by
          unfold exB at hw
          simp only [List.mem_cons, List.not_mem_nil, or_false] at hw
          rcases hw with e | e | e | e <;> subst e <;> rfl
        exact va_tabs hot rfl h5)
      refine vx_throw0 (A := fun q : Nat => base q) (names := exNm) (ik := exK en) (ic := exI en) (own := RX10) (cls := exN en) hx hb hfl (by rw [ho] at hown; exact hown) g4 exNm_fit (hwd _ List.mem_cons_self) (hwd _ (List.mem_cons_of_mem _ List.mem_cons_self)) hat (fun w hw => ?_) hZ.1 hZ.2.1 hS1 (hl1.1.trans hml.symm) d0 d3 d4 d7 (fun x hx => absurd (hemp x hx) (fun z => z)) (by show 2 + 3 < _; omega) (by rw [em_cats]; show (st1.map fun v => v.category).sum + (13 * (2 + 1) + 42) ≤ _; omega) (by omega) (by omega) hlk (fun t ht h3 h4 => ⟨rfl, ?_, Nat.le_trans hS1.1 h3, fun q h5 h6 => (h4 q (Nat.lt_of_lt_of_le h5 hS1.1)).trans (hS1.2.1 q h5 h6)⟩) hS1.2.2 (by omega) (by omega)
      · rcases List.mem_cons.mp hw with e | hw
        · rw [e]; rfl
        · rcases List.mem_cons.mp hw with e | hw
          · rw [e]; rfl
          · exact List.all_eq_true.mp g3 w hw
      · exact hP1.kept (fun k q hk => h4 q.1 (vx_lt hP1 hk))
    · have hnl := wfC_law (show wfC (cO mi) ins mj na 0 = true by
        have hw9 : (decide (decode (cB mi) pc1 = .ok (ins, nx - pc1)) && Nat.ble pc1 nx && (Nat.beq nx (pc1 + lenI ins) && wfC (cO mi) ins mj na 0)) = true := hw
        simp only [Bool.and_eq_true] at hw9
        exact hw9.2.2)
      have hcd := wfC_pl (show wfC (cO mi) ins mj na 0 = true by
        have hw9 : (decide (decode (cB mi) pc1 = .ok (ins, nx - pc1)) && Nat.ble pc1 nx && (Nat.beq nx (pc1 + lenI ins) && wfC (cO mi) ins mj na 0)) = true := hw
        simp only [Bool.and_eq_true] at hw9
        exact hw9.2.2)
      have hM := metT (o := o1) ih hnl hcd.1 hcd.2 hcm hrt1 hA
      have hko : kO o1 ≤ kO o := by
        rcases hk with ⟨v9, h9, e2, -⟩ | ⟨en9, h9, e2, e3⟩
        · rw [e2]; exact Nat.zero_le _
        · rw [e2, e3]; exact Nat.le_refl _
      refine sCT (n9 := kO o1) (d' := d') hx hb hml hown hts hK hZ (fun q hq => hbs q (Nat.le_trans hS1.1 hq)) hP1 (A0 := fun q : Nat => base q) (fun q z => z) hS1 hS1.2.1 hl1.1 (by omega) (by omega) (by omega) (by omega) hw ha h8 hM (fun v h2 e1 H2 locs2 hP2 _ hS2 => ?_) (fun en h2 e1 H2 locs2 ce q9 hP2 hS2 hce hcv hcl => ?_)
      · subst e1
        rcases hk with ⟨v9, h9, e2, hk⟩ | ⟨en9, h9, e2, -⟩
        · cases e2
          exact ih (d' + 1) mi nx lc1 _ h2 o hk hL p e R s m args below meth c H2 locs2 (cells + 0) (slots + 6 * 0) mc ms ls1 hx hb hml hr hlk hemp hown hts hK hA hZ hbs hRf hRl hmc hms (by omega) (by omega) hP2 hS2 hl1
        · cases e2
      · rcases hk with ⟨v9, h9, e2, -⟩ | ⟨en9, h9, e2, rfl⟩
        · rw [e1] at e2; cases e2
        · rw [e1] at e2
          cases e2
          exact vx_out (fun x hx => absurd (hemp x hx) (fun z => z)) hlk hce hcv hcl (fun t ht _ => ⟨rfl, by rw [ht]; exact hP2, hS2.F ht⟩) hS2.2.2 (by omega) (by omega)
end
end
