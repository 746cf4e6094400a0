/-! ===== pure: what an hour is, by the document ===== -/
/-- what a TEXT tells -/
def zE : Type := Nat × Nat × (Nat → Int32) × (Nat → Int32) × (Nat → Int32) × (Nat → Int32) × (Nat → Int32) × List Int32 × List Int32
def zE.mk (nA nM : Nat) (deaf kind cost joy fol : Nat → Int32) (says votes : List Int32) : zE := (nA, nM, deaf, kind, cost, joy, fol, says, votes)
def zE.nA (E : zE) : Nat := E.1
def zE.nM (E : zE) : Nat := E.2.1
def zE.deaf (E : zE) : Nat → Int32 := E.2.2.1
def zE.kind (E : zE) : Nat → Int32 := E.2.2.2.1
def zE.cost (E : zE) : Nat → Int32 := E.2.2.2.2.1
def zE.joy (E : zE) : Nat → Int32 := E.2.2.2.2.2.1
def zE.fol (E : zE) : Nat → Int32 := E.2.2.2.2.2.2.1
def zE.says (E : zE) : List Int32 := E.2.2.2.2.2.2.2.1
def zE.votes (E : zE) : List Int32 := E.2.2.2.2.2.2.2.2
/-- all that hours and acts change -/
def zT : Type := Int32 × Int32 × Int32 × Int32 × Int32 × Int32 × Int32 × (Nat → Int32) × (Nat → Int32)
def zT.mk (hour oil weight spider treas joy passed : Int32) (lean call : Nat → Int32) : zT := (hour, oil, weight, spider, treas, joy, passed, lean, call)
def zT.hour (t : zT) : Int32 := t.1
def zT.oil (t : zT) : Int32 := t.2.1
def zT.weight (t : zT) : Int32 := t.2.2.1
def zT.spider (t : zT) : Int32 := t.2.2.2.1
def zT.treas (t : zT) : Int32 := t.2.2.2.2.1
def zT.joy (t : zT) : Int32 := t.2.2.2.2.2.1
def zT.passed (t : zT) : Int32 := t.2.2.2.2.2.2.1
def zT.lean (t : zT) : Nat → Int32 := t.2.2.2.2.2.2.2.1
def zT.call (t : zT) : Nat → Int32 := t.2.2.2.2.2.2.2.2
abbrev zEok (E : zE) : Prop := (E.nA ≤ 7) ∧ (E.nM ≤ 10) ∧ (∀ a, a < E.nA → 0 ≤ E.deaf a ∧ E.deaf a ≤ 9) ∧ (∀ m, m < E.nM → 0 ≤ E.kind m ∧ E.kind m ≤ 2) ∧ (∀ m, m < E.nM → 0 ≤ E.cost m ∧ E.cost m ≤ 99) ∧ (∀ m, m < E.nM → -9 ≤ E.joy m ∧ E.joy m ≤ 9) ∧ (∀ m, m < E.nM → E.fol m = -1 ∨ ∃ j, j < m ∧ E.fol m = zJ j) ∧ (E.says = [] ∨ zwf E.says 0) ∧ (∀ w ∈ E.says, w < -6 ∨ -4 ≤ w) ∧ (E.votes = [] ∨ zwf E.votes 0)
theorem zEok.a7 {E : zE} (h : zEok E) : E.nA ≤ 7 := h.1
theorem zEok.m10 {E : zE} (h : zEok E) : E.nM ≤ 10 := h.2.1
theorem zEok.deaf {E : zE} (h : zEok E) : ∀ a, a < E.nA → 0 ≤ E.deaf a ∧ E.deaf a ≤ 9 := h.2.2.1
theorem zEok.kind {E : zE} (h : zEok E) : ∀ m, m < E.nM → 0 ≤ E.kind m ∧ E.kind m ≤ 2 := h.2.2.2.1
theorem zEok.cost {E : zE} (h : zEok E) : ∀ m, m < E.nM → 0 ≤ E.cost m ∧ E.cost m ≤ 99 := h.2.2.2.2.1
theorem zEok.joy {E : zE} (h : zEok E) : ∀ m, m < E.nM → -9 ≤ E.joy m ∧ E.joy m ≤ 9 := h.2.2.2.2.2.1
theorem zEok.fol {E : zE} (h : zEok E) : ∀ m, m < E.nM → E.fol m = -1 ∨ ∃ j, j < m ∧ E.fol m = zJ j := h.2.2.2.2.2.2.1
theorem zEok.says {E : zE} (h : zEok E) : E.says = [] ∨ zwf E.says 0 := h.2.2.2.2.2.2.2.1
theorem zEok.says4 {E : zE} (h : zEok E) : ∀ w ∈ E.says, w < -6 ∨ -4 ≤ w := h.2.2.2.2.2.2.2.2.1
theorem zEok.votes {E : zE} (h : zEok E) : E.votes = [] ∨ zwf E.votes 0 := h.2.2.2.2.2.2.2.2.2
abbrev zTok (E : zE) (t : zT) : Prop := (0 ≤ t.oil ∧ t.oil ≤ 99) ∧ (0 ≤ t.weight ∧ t.weight ≤ 99) ∧ (0 ≤ t.spider ∧ t.spider ≤ 24) ∧ (0 ≤ t.treas ∧ t.treas ≤ 9999) ∧ (∃ n, n < 2 ^ E.nM ∧ t.passed = zJ n) ∧ (∀ a, a < E.nA → -9 ≤ t.lean a ∧ t.lean a ≤ 9) ∧ (∀ m, m < E.nM → 0 ≤ t.call m ∧ t.call m ≤ 24)
theorem zTok.oil {E : zE} {t : zT} (h : zTok E t) : 0 ≤ t.oil ∧ t.oil ≤ 99 := h.1
theorem zTok.weight {E : zE} {t : zT} (h : zTok E t) : 0 ≤ t.weight ∧ t.weight ≤ 99 := h.2.1
theorem zTok.spider {E : zE} {t : zT} (h : zTok E t) : 0 ≤ t.spider ∧ t.spider ≤ 24 := h.2.2.1
theorem zTok.treas {E : zE} {t : zT} (h : zTok E t) : 0 ≤ t.treas ∧ t.treas ≤ 9999 := h.2.2.2.1
theorem zTok.passed {E : zE} {t : zT} (h : zTok E t) : ∃ n, n < 2 ^ E.nM ∧ t.passed = zJ n := h.2.2.2.2.1
theorem zTok.lean {E : zE} {t : zT} (h : zTok E t) : ∀ a, a < E.nA → -9 ≤ t.lean a ∧ t.lean a ≤ 9 := h.2.2.2.2.2.1
theorem zTok.call {E : zE} {t : zT} (h : zTok E t) : ∀ m, m < E.nM → 0 ≤ t.call m ∧ t.call m ≤ 24 := h.2.2.2.2.2.2
def zbc (x : Int32) : Int32 := (fJ6_bitCount_0f7a4 x).getD 0
theorem zbc_eq (x : Int32) : fJ6_bitCount_0f7a4 x = some (zbc x) := rfl
/-- six values -/
def zV (a b c d e f : Int32) : Nat → Int32
  | 0 => a
  | 1 => b
  | 2 => c
  | 3 => d
  | 4 => e
  | 5 => f
  | _ => 0
def zclamp (v : Int32) : Int32 := if 0 < (if v < 24 then v else 24) then (if v < 24 then v else 24) else 0
def zh12 (h : Int32) : Int32 := if (h - h / 12 * 12) = 0 then 12 else (h - h / 12 * 12)
def zword (E : zE) (t : zT) : Int32 := if E.says = [] then zh12 t.hour else zclamp (zev (zV (zh12 t.hour) t.oil t.weight (t.hour / 24) 0 0) E.says)
def zsaid (E : zE) (t : zT) : Int32 := if t.weight = 0 then -1 else if t.spider ≤ 0 then (if t.oil = 0 then zword E t / 2 else zword E t) else -1
def zfor (E : zE) (passed : Int32) (a : Nat) (lean : Int32) (m : Nat) (said : Int32) : Bool :=
  if E.votes = [] then !decide (lean + E.joy m ≤ 0)
  else !decide (zev (zV (if 0 < said - E.deaf a then said - E.deaf a else 0) lean (E.cost m) (E.joy m) (E.kind m) (zbc passed)) E.votes ≤ 0)
def zbit (k : Nat) : Int32 := (1 : Int32) <<< (zJ k &&& 31)
def zsupN (E : zE) (t : zT) (m : Nat) (said : Int32) : Nat → Int32
  | 0 => 0
  | a + 1 => if zfor E t.passed a (t.lean a) m said then zsupN E t m said a ||| zbit a else zsupN E t m said a
def zsup (E : zE) (t : zT) (m : Nat) (said : Int32) : Int32 := zsupN E t m said E.nA
def zcarry (E : zE) (s : Int32) : Bool := !decide ((2 : Int32) * zbc s ≤ zJ E.nA)
def zexp (E : zE) (m : Nat) : Int32 := if E.kind m = 2 then -(E.cost m) else E.cost m
def zple (E : zE) (m : Nat) : Int32 := if E.kind m = 1 then (2 : Int32) * E.joy m else E.joy m
def zwould (E : zE) (t : zT) (m : Nat) (said : Int32) : Bool := !decide (t.treas < zexp E m) && zcarry E (zsup E t m said)
def zis (set : Int32) (k : Int32) : Bool := decide ((set >>> (k &&& 31)) &&& (1 : Int32) = 1)
def zopen (E : zE) (passed : Int32) (m : Nat) : Bool := !zis passed (zJ m) && (decide (E.fol m = -1) || zis passed (E.fol m))
def zpass (E : zE) (t : zT) (m : Nat) : zT := (zT.mk t.hour t.oil t.weight t.spider (if t.treas - zexp E m < 9999 then t.treas - zexp E m else 9999) (t.joy + zple E m) (t.passed ||| zbit m) t.lean t.call)
def zvote1 (E : zE) (wo : Int32) (said : Int32) (t : zT) (m : Nat) : zT :=
  if !decide (zJ m = wo) && (decide (t.call m = said) && (zopen E t.passed m && zwould E t m said)) then zpass E t m else t
/-- the motions from m on, k of them -/
def zvotes (E : zE) (wo said : Int32) : Nat → Nat → zT → zT
  | 0, _, t => t
  | k + 1, m, t => zvotes E wo said k (m + 1) (zvote1 E wo said t m)
def zdec (x : Int32) : Int32 := if 0 < x - 1 then x - 1 else 0
def zturn (t : zT) : zT := (zT.mk (t.hour + 1) t.oil (zdec t.weight) (zdec t.spider) t.treas t.joy t.passed t.lean t.call)
def zdrop (E : zE) (t : zT) : zT := if zsaid E t = -1 then t else (zT.mk t.hour (if t.oil = 0 then t.oil else t.oil - 1) t.weight t.spider t.treas t.joy t.passed t.lean t.call)
/-- an hour in which a motion (or -1) is never voted on -/
def zhour (E : zE) (wo : Int32) (t : zT) : zT := zturn (if zsaid E t = -1 then t else zvotes E wo (zsaid E t) E.nM 0 (zdrop E t))
