noncomputable section
theorem txB_k : ∀ i, i < 13 → ∀ k, k < (txB.getD i []).length → kOk 2 ((txB.getD i []).getD k 0) = true := by decide +kernel
theorem txB_n : ∀ i, i < 13 → (txB.getD i []).length ≤ 16 := by decide +kernel
/-- one character more, where there is room -/
def apS (T : Tx) (x : Int32) : Tx := if T.1 < 60 then (T.1 + 1, T.2.1, upd T.2.2 T.1 x) else T
def apT : List Int32 → Tx → Tx
  | [], T => T
  | x :: L, T => apT L (apS T x)
theorem l_append2 {l : Launch} {h : AH} {r : Nat → Int32} {w : Nat → UInt32} {S : Sv} {K : Hs} {q : Int32 × Int32} {T : Tx} (hfl : l.stackTraces = false) (C : CS h r w S K q T) {x : Int32} (hx : kOk 2 x = true) : LM l mL_append [.ref 31, .int x] h (fun v h' => ∃ y, v = some (.int y) ∧ CS h' r w S K q (apS T x)) := by
  refine (l_append hfl C hx).mono (fun v h' p => ?_)
  rcases p with ⟨g, rfl, C⟩ | ⟨g, rfl, C⟩
  · exact ⟨_, rfl, by unfold apS; rw [if_pos g]; exact C⟩
  · exact ⟨_, rfl, by unfold apS; rw [if_neg g]; exact C⟩
section
variable {p : Program} {l : Launch} {e : Env} {R : Room} {s : State} {m : MethodId} {args : Array Value} {below : List Frame} {meth : Method} {c : Code} {mi dR KC : Nat} {D : va_G} {ca : Nat → ClassId} {ad0 ad : Nat → Nat} {A : Nat → Prop} {E : EX} {G : Nat → Nat → Int32} {kc pc : Nat} {lc : LC} {h : AH}
theorem wl_qa {P : Option Value → AH → Prop} (hmi : ¬ mi = mL_law) {n9 : String} (hr9 : cR mi = some (.object n9)) (hdg : decode (cB mi) pc = .ok (.areturn, 1)) {k : Nat} (h1 : k ≠ 212) (h2 : k ≠ 213) (hp : P (some (.ref k)) h) : WL p l e R s m args below meth c (vx_MQ below (LQ D ca ad0 A P) exitX args s KC (64 * KC) (fun q : Nat => A q)) mi dR KC D ca ad0 A ad E G kc pc lc [.ref k] h := by
  intro F hk H locs ls cells slots hc9 hs9 hP hX hS hl
  rw [F.ws] at hP
  have ek := F.2.2.1 k h1 h2
  obtain ⟨⟨hx, hb, -⟩, -, -, -, -, hr, hlk⟩ := F
  refine vx_ret (W.widen (show cells ≤ KC by omega) (show slots ≤ 64 * KC by omega) ?_)
  exact W.aret hx hb ((hr.resolve_left hmi).trans hr9) (Or.inl ⟨_, rfl⟩) (Or.inr ⟨_, rfl⟩) (fun t ht hW => ⟨⟨some (.ref k), h, hp, congrArg (fun a : Nat => Outcome.returned (some (Value.ref a))) ek, by rw [ht]; exact hP⟩, hS.F ht⟩) hS.2.2 hdg hlk
end
section
variable {p : Program} {l : Launch} {e : Env} {R : Room} {s : State} {m : MethodId} {args : Array Value} {below : List Frame} {meth : Method} {c : Code} {Q : State → Prop} {KC : Nat} {D : va_G} {ca : Nat → ClassId} {ad0 ad : Nat → Nat} {A : Nat → Prop} {E : EX} {G : Nat → Nat → Int32} {kc : Nat} {h : AH} {r : Nat → Int32} {w : Nat → UInt32} {S : Sv} {K : Hs} {q : Int32 × Int32} {T : Tx} {B : Nat}
theorem wr_loop (hfl : l.stackTraces = false) {i : Nat} (hi : i < 12) {TF : Tx} (KE : ∀ (h : AH) (kc : Nat), CS h r w S K q TF → WL p l e R s m args below meth c Q mL_write 22 16 D ca ad0 A ad E G kc 26 [(0, .ref 31)] [] h) : ∀ (t k : Nat) (h : AH) (T : Tx), k + t = (txB.getD i []).length → apT ((txB.getD i []).drop k) T = TF → CS h r w S K q T → WL p l e R s m args below meth c Q mL_write 22 16 D ca ad0 A ad E G k 2 [(0, .ref 31), (1, .ref (220 + i)), (2, .int (nI k))] [] h := by
  have h16 := txB_n i (by omega)
  intro t
  induction t with
  | zero =>
    intro k h T ht eT C
    have hk : k = (txB.getD i []).length := by omega
    rw [hk, List.drop_length] at eT
    have eT : T = TF := eT
    subst eT
    iterate 2 refine wl_s rfl rfl ?_
    refine wl_js (mj := mJ0_length_8abf5) (i9 := 79) (na := 0) (d' := 1) (i := i) (As := []) (rest := [.int (nI k)]) (rv := some (.int (nI (txB.getD i []).length))) (by omega) (by decide +kernel) (fun sa va => met_Jlen) (by decide +kernel) (by decide +kernel) (by decide +kernel) (by decide) (by decide) ⟨by decide, by decide, by decide +kernel⟩ rfl (Nat.le_of_ble_eq_true rfl) (by decide) (by decide) rfl rfl ?_
    refine wl_b rfl rfl (fun _ => ?_) (fun q => absurd (by rw [hk]; exact Int32.le_refl _) q)
    exact wl_sub (sub1 rfl) (KE _ _ C)
  | succ t ih =>
    intro k h T ht eT C
    have hk : k < (txB.getD i []).length := by omega
    have ex : (txB.getD i []).getD k 0 = (txB.getD i [])[k] := by rw [List.getD_eq_getElem?_getD, List.getElem?_eq_getElem hk]; rfl
    rw [List.drop_eq_getElem_cons hk, ← ex] at eT
    have eT : apT ((txB.getD i []).drop (k + 1)) (apS T ((txB.getD i []).getD k 0)) = TF := eT
    iterate 2 refine wl_s rfl rfl ?_
    refine wl_js (mj := mJ0_length_8abf5) (i9 := 79) (na := 0) (d' := 1) (i := i) (As := []) (rest := [.int (nI k)]) (rv := some (.int (nI (txB.getD i []).length))) (by omega) (by decide +kernel) (fun sa va => met_Jlen) (by decide +kernel) (by decide +kernel) (by decide +kernel) (by decide) (by decide) ⟨by decide, by decide, by decide +kernel⟩ rfl (Nat.le_of_ble_eq_true rfl) (by decide) (by decide) rfl rfl ?_
    refine wl_b rfl rfl (fun q => absurd q (nI_ge hk (by omega))) (fun _ => ?_)
    iterate 3 refine wl_s rfl rfl ?_
    refine wl_js (mj := mJ0_charAt_5068e) (i9 := 84) (na := 1) (d' := 3) (i := i) (As := [.int (nI k)]) (rest := [.ref 31]) (rv := some (.int ((txB.getD i []).getD k 0))) (by omega) (by decide +kernel) (fun sa va => met_Jch (txB_ok i (by omega)).1 hk) (by decide +kernel) (by decide +kernel) (by decide +kernel) (by decide) (by decide) ⟨by decide, by decide, by decide +kernel⟩ rfl (Nat.le_of_ble_eq_true rfl) (by decide) (by decide) rfl rfl ?_
    refine wl_w (mj := mL_append) (na := 2) rfl (by decide) (by decide +kernel) (by decide +kernel) (by decide +kernel) (by decide +kernel) rfl (Nat.le_of_ble_eq_true rfl) (by decide) (by omega) (l_append2 hfl C (txB_k i (by omega) k hk)) (fun v9 h9 p9 => ?_)
    obtain ⟨x9, rfl, C⟩ := p9
    iterate 2 refine wl_s rfl rfl ?_
    refine wl_g rfl rfl ?_
    rw [nI_1]
    exact wl_sub (sub3 rfl rfl rfl) (ih (k + 1) _ _ (by omega) eT C)
end
/-- a text is written, one character after the other -/
theorem c_write {l : Launch} (hfl : l.stackTraces = false) {h : AH} {r : Nat → Int32} {w : Nat → UInt32} {S : Sv} {K : Hs} {q : Int32 × Int32} {T : Tx} (C : CS h r w S K q T) {i : Nat} (hi : i < 12) : LX l mL_write 22 16 [.ref 31, .ref (220 + i)] h (fun v h' => v = some (.ref 31) ∧ CS h' r w S K q (apT (txB.getD i []) T)) := by
  refine lc_mk hfl (by decide) (Nat.le_of_ble_eq_true rfl) (fun p e R s m args below meth c D ca A ad => ?_)
  show WL p l e R s m args below meth c _ mL_write 22 16 D ca ad A ad [] _ 0 0 [(0, .ref 31), (1, .ref (220 + i))] [] h
  iterate 2 refine wl_s rfl rfl ?_
  refine wl_sub (sub3 rfl rfl rfl) (wr_loop hfl hi (TF := apT (txB.getD i []) T) (fun h kc C => ?_) (txB.getD i []).length 0 h T (Nat.zero_add _) rfl C)
  refine wl_s rfl rfl ?_
  exact wl_qa (by decide) rfl (by decide +kernel) (by decide) (by decide) ⟨rfl, C⟩
end
