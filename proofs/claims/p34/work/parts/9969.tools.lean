noncomputable section
/-- a method of the class that doesn't throw here -/
theorem px_good {f : Int32} {en : Nat} {Gd : Option Value → AH → Prop} {Bd : AH → Prop} (hf : f = 0) : ∀ o, PX f en Gd Bd o → ∃ v h2, o = .inl (v, h2) ∧ Gd v h2
  | .inl q, p => ⟨q.1, q.2, rfl, p.2⟩
  | .inr _, p => absurd hf p.1
section
variable {r : Nat → Int32}
theorem blockC_ok (hw : Wel r) {b x : Nat} (hb : b < CN r) (hx : x < 8) : blockC r (nI b) (nI x) = 0 := by
  unfold blockC
  rw [if_neg (fun z => z (blk_in hw hb)), if_pos ⟨nI_pos' (by omega), nI_le (b := 7) (by omega) (by decide)⟩]
theorem mbC_ok (hw : Wel r) {b n : Nat} (hb : b < CN r) (hn : n ≤ 48) : mbC r (nI b) (nI n) = 0 := by
  unfold mbC
  rw [if_neg (fun z => z (blk_in hw hb)), if_pos ⟨nI_pos' (by omega), nI_le (b := 48) hn (by decide)⟩]
theorem atC_ok {y z : Nat} (hy : y < 12) (hz : z < 8) : atC (nI y) (nI z) = 0 := by
  unfold atC
  rw [if_pos ⟨⟨nI_pos' (by omega), nI_le (b := 11) (by omega) (by decide)⟩, nI_pos' (by omega), nI_le (b := 7) (by omega) (by decide)⟩]
theorem acctC_ok {n : Nat} (hn : n < 15) : acctC (nI n) = 0 := by
  unfold acctC
  rw [if_pos ⟨nI_pos' (by omega), nI_le (b := 14) (by omega) (by decide)⟩]
theorem leftC_ok {n : Nat} (hn : n ≤ 48) : leftC (nI n) = 0 := by
  unfold leftC
  rw [if_pos ⟨nI_pos' (by omega), nI_le (b := 48) hn (by decide)⟩]
theorem sawnC_ok (hw : Wel r) {b : Nat} (hb : b < CN r) : sawnC r (nI b) = 0 := if_pos (blk_in hw hb)
theorem heightC_ok {y : Nat} (hy : y < 12) : heightC (nI y) = 0 := if_pos ⟨nI_pos' (by omega), nI_le (b := 11) (by omega) (by decide)⟩
theorem inRackC_ok {p y : Nat} (hp : p < 2) (hy : y < 5) : inRackC (nI p) (nI y) = 0 := if_pos ⟨⟨nI_pos' (by omega), nI_le (b := 1) (by omega) (by decide)⟩, nI_pos' (by omega), nI_le (b := 4) (by omega) (by decide)⟩
theorem loadC_ok (hw : Wel r) {b : Nat} (hb : b < CN r) (hs : ofB r b 2 = 1) : loadC r (nI b) = 0 := by
  have h40 := hw.2.1
  unfold loadC
  rw [if_neg (fun z => z (blk_in hw hb)), nI_clamp (by omega), if_pos hs]
theorem massC_ok (hw : Wel r) {b : Nat} (hb : b < CN r) (hs : ofB r b 2 ≠ 2) : massC r (nI b) = 0 := by
  have h40 := hw.2.1
  unfold massC
  rw [if_neg (fun z => z (blk_in hw hb)), nI_clamp (by omega), if_neg hs]
theorem shadyC_ok (hw : Wel r) {b y : Nat} (hb : b < CN r) (hy : y < 24) (hs : ofB r b 2 = 1) : shadyC r (nI b) (nI y) = 0 := by
  have h40 := hw.2.1
  unfold shadyC
  rw [if_neg (fun z => z ⟨blk_in hw hb, nI_pos' (by omega), nI_le (b := 23) (by omega) (by decide)⟩), nI_clamp (by omega), if_pos hs]
theorem roomsC_ok {z y : Nat} (hz : z < 8) (hy : y < 3) : roomsC (nI z) (nI y) = 0 := by
  unfold roomsC
  rw [if_neg (fun q => q ⟨nI_pos' (by omega), nI_le (b := 7) (by omega) (by decide)⟩), if_pos ⟨nI_pos' (by omega), nI_le (b := 2) (by omega) (by decide)⟩]
theorem acct_13 {a b : Int32} {n : Nat} (hn : n < 13) : acctV r a b n = acctV r 0 0 n := by
  unfold acctV
  repeat' split
  all_goals first | rfl | omega
theorem acct_4 (hw : Wel r) {a b : Int32} : acctV r a b (Int32.toNatClampNeg 4) = nI (CN r) := by
  rw [k4]
  exact hw.1
theorem dvN {n d : Nat} (hn : n < 2 ^ 31) (h0 : 0 < d) (hd : d < 2 ^ 31) : nI n / nI d = nI (n / d) := pk_div hn h0 hd
theorem dv8 {n : Nat} (hn : n < 2 ^ 31) : nI n / 8 = nI (n / 8) := pk_div (d := 8) hn (by decide) (by decide)
theorem rm8 {n : Nat} (hn : n < 2 ^ 31) : nI n - nI n / 8 * 8 = nI (n % 8) := pk_rem (d := 8) hn (by decide) (by decide)
theorem dv12 {n : Nat} (hn : n < 2 ^ 31) : nI n / 12 = nI (n / 12) := pk_div (d := 12) hn (by decide) (by decide)
theorem rm12 {n : Nat} (hn : n < 2 ^ 31) : nI n - nI n / 12 * 12 = nI (n % 12) := pk_rem (d := 12) hn (by decide) (by decide)
end
/-- the digest: 31 times what was, and one number more -/
def dgS (f : Nat → Int32) (n : Nat) (x : Int64) : Int64 := iterN (fun k x => 31 * x + (f k).toInt64) n x
def dg1 (r : Nat → Int32) : Int64 := dgS (fun k => acctV r 0 0 k) 13 7
def dg2 (r : Nat → Int32) : Int64 := dgS (fun k => ofB r (k / 8) (k % 8)) (CN r * 8) (dg1 r)
def dg3 (r : Nat → Int32) (w : Nat → UInt32) : Int64 := dgS (fun k => mbA r w k 0) (CN r) (dg2 r)
def dg (r : Nat → Int32) (w : Nat → UInt32) : Int64 := dgS (fun k => gAt r (k / 12) (k % 12)) 96 (dg3 r w)
end
