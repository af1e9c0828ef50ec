/-! ===== the abstract net, and the cells that hold it ===== -/
/-- posts, links, of kind 1, times -/
abbrev aN : Type := Nat × (Nat → Nat → Bool) × (Nat → Nat → Bool) × (Nat → Nat → Nat)
def NW (N : aN) : Prop := 3 ≤ N.1 ∧ N.1 ≤ 16 ∧ (∀ a b, N.2.1 a b = true → a < N.1 ∧ b < N.1 ∧ a ≠ b) ∧ (∀ a b, N.2.2.1 a b = true → N.2.1 a b = true) ∧ (∀ a b, N.2.1 a b = false → N.2.2.2 a b = 0) ∧ (∀ a b, N.2.2.2 a b ≤ 1000)
def N0 (n : Nat) : aN := (n, fun _ _ => false, fun _ _ => false, fun _ _ => 0)
/-- net, sheets (there or not, what it holds), refusals, seed -/
abbrev aS : Type := aN × (Nat → Bool × aN) × (Nat → Int32) × Int32
def S0 : aS := (N0 6, fun _ => (false, N0 6), fun _ => 0, 1)
/-- cell j of a Net at r -/
def NC (r : Nat) (N : aN) (j : Nat) (c : xC) : Prop := match j with
  | 0 => c = .inr (3, [.int (nI N.1), .ref (r + 1), .ref (r + 2), .ref (r + 3)])
  | 1 => ∃ f, c = .inl (0, 16, .inl f) ∧ ∀ a, a < 16 → f a = nI (rb (N.2.1 a) 16)
  | 2 => ∃ f, c = .inl (0, 16, .inl f) ∧ ∀ a, a < 16 → f a = nI (rb (N.2.2.1 a) 16)
  | _ => ∃ f, c = .inl (0, 256, .inl f) ∧ ∀ a b, a < 16 → b < 16 → N.2.1 a b = true → f (16 * a + b) = nI (N.2.2.2 a b)
def NetAt (h : List xC) (r : Nat) (N : aN) : Prop := ∀ j, j < 4 → ∃ c, h[r + j]? = some c ∧ NC r N j c
/-- the shapes' tables: least code of a code, its shape, a shape's least code, its number of codes, of places; a standing's place in a code -/
def lstL : List Nat := [0, 1, 1, 3, 1, 5, 6, 7, 1, 6, 10, 11, 3, 7, 11, 15, 1, 6, 5, 7, 10, 21, 21, 23, 6, 25, 21, 27, 11, 27, 30, 31, 1, 10, 6, 11, 6, 21, 25, 27, 5, 21, 21, 30, 7, 23, 27, 31, 3, 11, 7, 15, 11, 30, 27, 31, 7, 27, 23, 31, 15, 31, 31, 63]
def shL : List Nat := [0, 1, 1, 2, 1, 3, 4, 5, 1, 4, 6, 7, 2, 5, 7, 8, 1, 4, 3, 5, 6, 9, 9, 10, 4, 11, 9, 12, 7, 12, 13, 14, 1, 6, 4, 7, 4, 9, 11, 12, 3, 9, 9, 13, 5, 10, 12, 14, 2, 7, 5, 8, 7, 13, 12, 14, 5, 12, 10, 14, 8, 14, 14, 15]
def lcL : List Nat := [0, 1, 3, 5, 6, 7, 10, 11, 15, 21, 23, 25, 27, 30, 31, 63]
def ccL : List Nat := [1, 6, 3, 3, 6, 6, 3, 6, 3, 6, 3, 2, 6, 3, 6, 1]
def pcL : List Nat := [1, 3, 2, 2, 3, 3, 2, 3, 2, 3, 2, 1, 3, 2, 3, 1]
def plL : List Nat := [0, 0, 0, 0, 1, 2, 0, 2, 1, 0, 1, 1, 1, 0, 2, 0, 0, 2, 0, 1, 2, 0, 1, 2, 2, 0, 1, 1, 0, 2, 0, 0, 2, 0, 1, 2, 1, 0, 1, 1, 0, 2, 1, 0, 2, 0, 0, 2, 1, 2, 0, 0, 2, 1, 0, 2, 0, 0, 2, 1, 2, 0, 0, 0, 1, 2, 0, 2, 1, 0, 1, 1, 2, 1, 0, 0, 0, 0, 1, 2, 0, 0, 1, 2, 2, 0, 1, 2, 0, 1, 0, 1, 0, 0, 1, 2, 2, 1, 0, 0, 2, 0, 1, 2, 0, 0, 2, 1, 2, 0, 1, 1, 0, 2, 0, 0, 0, 0, 2, 1, 2, 0, 0, 2, 0, 1, 2, 1, 0, 1, 0, 0, 2, 0, 1, 1, 0, 1, 1, 0, 2, 1, 0, 2, 1, 1, 0, 1, 2, 0, 1, 2, 0, 0, 2, 0, 2, 1, 0, 0, 0, 1, 2, 1, 0, 0, 2, 1, 2, 1, 0, 1, 2, 0, 1, 1, 0, 1, 2, 0, 2, 0, 0, 2, 0, 1, 2, 1, 0, 0, 0, 0]
def lstN (c : Nat) : Nat := lstL.getD c 0
def shN (c : Nat) : Nat := shL.getD c 0
def lcN (s : Nat) : Nat := lcL.getD s 0
def ccN (s : Nat) : Nat := ccL.getD s 0
def pcN (s : Nat) : Nat := pcL.getD s 0
def plN (c w : Nat) : Nat := plL.getD (3 * c + w) 0
def isI (n : Nat) (f : Nat → Int32) (c : xC) : Prop := ∃ g, c = .inl (0, n, .inl g) ∧ ∀ k, k < n → g k = f k
def anI (n : Nat) (c : xC) : Prop := ∃ g, c = .inl (0, n, .inl g)
def anZ (n : Nat) (c : xC) : Prop := ∃ g, c = .inl (1, n, .inl g)
def anL (n : Nat) (c : xC) : Prop := ∃ g, c = .inl (2, n, .inr (.inl g))
/-- cells 7 to 25 of the class, but for the refusals -/
def CPs (i : Nat) (c : xC) : Prop := match i with
  | 8 => c = .inr (0, [.ref 9, .ref 15, .ref 16, .ref 17])
  | 9 => c = .inr (4, [.ref 10, .ref 11, .ref 12, .ref 13, .ref 14])
  | 10 => isI 64 (fun k => nI (shN k)) c
  | 11 => isI 16 (fun k => nI (lcN k)) c
  | 12 => isI 16 (fun k => nI (ccN k)) c
  | 13 => isI 16 (fun k => nI (pcN k)) c
  | 14 => isI 192 (fun k => nI (plL.getD k 0)) c
  | 15 => anI 768 c
  | 16 => anI 16 c
  | 17 => anI 16 c
  | 18 => ∃ a b, c = .inr (1, [.long a, .long b])
  | 20 => ∃ a b, c = .inr (5, [.ref 21, .ref 22, .int a, .int b])
  | 21 => anI 16 c
  | 22 => anI 16 c
  | 23 => c = .inr (6, [.ref 24, .ref 25]) ∨ c = .inr (6, [.ref 25, .ref 24])
  | _ => anL 128 c
def CP (sd : Int32) (i : Nat) (c : xC) : Prop := if i = 19 then c = .inr (2, [.int sd]) else CPs i c
/-- the reference's cells -/
def MPs (S : aS) (i : Nat) (c : xC) : Prop := match i with
  | 42 => ∃ a b, c = .inr (8, [.int (nI S.1.1), .ref 43, .ref 44, .ref 45, .int S.2.2.2, .ref 46, .ref 47, .ref 48, .ref 49, .ref 50, .ref 51, .ref 52, .ref 53, .ref 54, .ref 55, .ref 56, .long a, .long b, .ref 57, .ref 58, .ref 59, .ref 60, .ref 61, .ref 62, .ref 63])
  | 43 => ∃ g, c = .inl (1, 256, .inl g) ∧ ∀ a b, a < 16 → b < 16 → g (16 * a + b) = nI (S.1.2.1 a b).toNat
  | 44 => ∃ g, c = .inl (0, 256, .inl g) ∧ ∀ a b, a < 16 → b < 16 → g (16 * a + b) = nI (S.1.2.2.1 a b).toNat
  | 45 => ∃ g, c = .inl (0, 256, .inl g) ∧ ∀ a b, a < 16 → b < 16 → g (16 * a + b) = nI (S.1.2.2.2 a b)
  | 46 => isI 4 (fun k => nI (if (S.2.1 k).1 = true then (S.2.1 k).2.1 else 0)) c
  | 47 => ∃ g, c = .inl (1, 1024, .inl g) ∧ ∀ k a b, k < 4 → a < 16 → b < 16 → (S.2.1 k).1 = true → g (256 * k + (16 * a + b)) = nI ((S.2.1 k).2.2.1 a b).toNat
  | 48 => ∃ g, c = .inl (0, 1024, .inl g) ∧ ∀ k a b, k < 4 → a < 16 → b < 16 → (S.2.1 k).1 = true → g (256 * k + (16 * a + b)) = nI ((S.2.1 k).2.2.2.1 a b).toNat
  | 49 => ∃ g, c = .inl (0, 1024, .inl g) ∧ ∀ k a b, k < 4 → a < 16 → b < 16 → (S.2.1 k).1 = true → g (256 * k + (16 * a + b)) = nI ((S.2.1 k).2.2.2.2 a b)
  | _ => ∃ g, c = .inl (0, 7, .inl g) ∧ ∀ k, k < 6 → g (k + 1) = S.2.2.1 k
def MPl (i : Nat) (c : xC) : Prop := match i with
  | 51 => isI 64 (fun k => nI (lstN k)) c
  | 52 => isI 16 (fun k => nI (lcN k)) c
  | 53 => ∃ g, c = .inl (0, 64, .inl g) ∧ ∀ k, k < 64 → g (lstN k) = nI (shN k)
  | 54 => anI 768 c
  | 55 => anI 16 c
  | 56 => anI 4 c
  | 57 => anI 120 c
  | 58 => anI 120 c
  | 59 => anI 120 c
  | 60 => anL 144 c
  | 61 => anL 144 c
  | 62 => anZ 256 c
  | _ => anI 16 c
def MP (S : aS) (i : Nat) (c : xC) : Prop := if i < 51 then MPs S i c else MPl i c
def XP (S T : aS) (i : Nat) (c : xC) : Prop :=
  if i < 1 then c = .inr (7, [.ref 1, .ref 5, .ref 6, .ref 7, .ref 8, .ref 18, .ref 19, .ref 20, .ref 23])
  else if i < 5 then NC 1 S.1 (i - 1) c
  else if i < 6 then ∃ f, c = .inl (3, 4, .inr (.inr (.inr (.inr f)))) ∧ ∀ k, k < 4 → f k = some (26 + 4 * k)
  else if i < 7 then ∃ f, c = .inl (1, 4, .inl f) ∧ ∀ k, k < 4 → f k = nI (S.2.1 k).1.toNat
  else if i < 8 then isI 6 S.2.2.1 c
  else if i < 26 then CP S.2.2.2 i c
  else if i < 42 then NC (26 + 4 * ((i - 26) / 4)) (S.2.1 ((i - 26) / 4)).2 ((i - 26) % 4) c
  else MP T i c
/-- the class's cells hold S, the reference's T -/
def INV (h : List xC) (S T : aS) : Prop := ∀ i, i < 64 → ∃ c, h[i]? = some c ∧ XP S T i c
/-! ===== both constructors, run by the kernel ===== -/
def FU : Nat := 100000
def hInit : Option (List xC) := (some ([] ++ [.inr (7, [.null, .null, .null, .null, .null, .null, .null, .null, .null])])).bind fun h1 => (f_X10_init FU h1 0).bind fun h2 =>
  (some (h2 ++ [.inr (8, [.int 0, .null, .null, .null, .int 0, .null, .null, .null, .null, .null, .null, .null, .null, .null, .null, .null, .long 0, .long 0, .null, .null, .null, .null, .null, .null, .null])])).bind fun h3 => f_X11_init FU h3 42
def ckI (t n : Nat) (e : List Nat) (c : xC) : Bool := match c with
  | .inl (u, m, .inl g) => u == t && m == n && (List.range n).all (fun k => decide (g k = nI (e.getD k 0)))
  | _ => false
def ckA (t n : Nat) (c : xC) : Bool := match c with
  | .inl (u, m, .inl _) => u == t && m == n
  | _ => false
def ckL (n : Nat) (c : xC) : Bool := match c with
  | .inl (u, m, .inr (.inl _)) => u == 2 && m == n
  | _ => false
def ckO (k : Nat) (fs : List Value) (c : xC) : Bool := match c with
  | .inr (u, gs) => u == k && decide (gs = fs)
  | _ => false
def ckQ (c : xC) : Bool := match c with
  | .inl (u, m, .inr (.inr (.inr (.inr f)))) => u == 3 && m == 4 && (List.range 4).all (fun k => decide (f k = some (26 + 4 * k)))
  | _ => false
def ckN (r : Nat) (j : Nat) (c : xC) : Bool := match j with
  | 0 => ckO 3 [.int 6, .ref (r + 1), .ref (r + 2), .ref (r + 3)] c
  | 1 => ckI 0 16 [] c
  | 2 => ckI 0 16 [] c
  | _ => ckA 0 256 c
def ckX (i : Nat) (c : xC) : Bool := match i with
  | 0 => ckO 7 [.ref 1, .ref 5, .ref 6, .ref 7, .ref 8, .ref 18, .ref 19, .ref 20, .ref 23] c
  | 1 => ckN 1 0 c
  | 2 => ckN 1 1 c
  | 3 => ckN 1 2 c
  | 4 => ckN 1 3 c
  | 5 => ckQ c
  | 6 => ckI 1 4 [] c
  | 7 => ckI 0 6 [] c
  | 8 => ckO 0 [.ref 9, .ref 15, .ref 16, .ref 17] c
  | 9 => ckO 4 [.ref 10, .ref 11, .ref 12, .ref 13, .ref 14] c
  | 10 => ckI 0 64 shL c
  | 11 => ckI 0 16 lcL c
  | 12 => ckI 0 16 ccL c
  | 13 => ckI 0 16 pcL c
  | 14 => ckI 0 192 plL c
  | 15 => ckA 0 768 c
  | 16 => ckA 0 16 c
  | 17 => ckA 0 16 c
  | 18 => ckO 1 [.long 0, .long 1] c
  | 19 => ckO 2 [.int 1] c
  | 20 => ckO 5 [.ref 21, .ref 22, .int 0, .int 0] c
  | 21 => ckA 0 16 c
  | 22 => ckA 0 16 c
  | 23 => ckO 6 [.ref 24, .ref 25] c
  | 24 => ckL 128 c
  | 25 => ckL 128 c
  | 42 => ckO 8 [.int 6, .ref 43, .ref 44, .ref 45, .int 1, .ref 46, .ref 47, .ref 48, .ref 49, .ref 50, .ref 51, .ref 52, .ref 53, .ref 54, .ref 55, .ref 56, .long 0, .long 0, .ref 57, .ref 58, .ref 59, .ref 60, .ref 61, .ref 62, .ref 63] c
  | 43 => ckI 1 256 [] c
  | 44 => ckI 0 256 [] c
  | 45 => ckI 0 256 [] c
  | 46 => ckI 0 4 [] c
  | 47 => ckA 1 1024 c
  | 48 => ckA 0 1024 c
  | 49 => ckA 0 1024 c
  | 50 => ckI 0 7 [] c
  | 51 => ckI 0 64 lstL c
  | 52 => ckI 0 16 lcL c
  | 53 => match c with
    | .inl (u, m, .inl g) => u == 0 && m == 64 && (List.range 64).all (fun k => decide (g (lstN k) = nI (shN k)))
    | _ => false
  | 54 => ckA 0 768 c
  | 55 => ckA 0 16 c
  | 56 => ckA 0 4 c
  | 57 => ckA 0 120 c
  | 58 => ckA 0 120 c
  | 59 => ckA 0 120 c
  | 60 => ckL 144 c
  | 61 => ckL 144 c
  | 62 => ckA 1 256 c
  | 63 => ckA 0 16 c
  | i => ckN (26 + 4 * ((i - 26) / 4)) ((i - 26) % 4) c
def ckH (o : Option (List xC)) : Bool := match o with
  | some h => h.length == 64 && (List.range 64).all (fun i => match h[i]? with
    | some c => ckX i c
    | none => false)
  | none => false
