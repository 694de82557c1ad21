section PURE
/-- what a text means: where it goes wrong, or its number and where it ends -/
abbrev PEnv : Type := (Nat → Int32) × (Int32 → Int32)
abbrev PX : Type := Sum Nat ((PEnv → Int32) × Nat)
def pDg (ch : Nat → Int32) : Nat → Nat → Nat → Nat × Nat
  | 0, v, a => (v, a)
  | k + 1, v, a => if (48 : Int32) ≤ ch a ∧ ch a ≤ 57 then pDg ch k (v * 10 + ((ch a).toNatClampNeg - 48)) (a + 1) else (v, a)
def pNb (ch : Nat → Int32) (D M a : Nat) : Sum Nat (Nat × Nat) := if (48 : Int32) ≤ ch a ∧ ch a ≤ 57 then (if (pDg ch D 0 a).1 ≤ M then .inr (pDg ch D 0 a) else .inl ((pDg ch D 0 a).2 - 1)) else .inl a
def pB (x : PX) (f : (PEnv → Int32) → Nat → PX) : PX := match x with
  | .inl q => .inl q
  | .inr q => f q.1 q.2
def pLp (ch : Nat → Int32) (th : Nat → PX) : Nat → (PEnv → Int32) → Nat → PX
  | 0, _, _ => .inl 0
  | k + 1, v, a => if ch a = 42 then pB (th (a + 1)) (fun r e => pLp ch th k (fun E => v E * r E) e) else .inr (v, a)
def pPr (ch : Nat → Int32) (th : Nat → PX) (a : Nat) : PX := pB (th a) (fun r e => pLp ch th 70 r e)
def pLs (ch : Nat → Int32) (pr : Nat → PX) : Nat → (PEnv → Int32) → Nat → PX
  | 0, _, _ => .inl 0
  | k + 1, v, a => if ch a = 43 then pB (pr (a + 1)) (fun r e => pLs ch pr k (fun E => v E + r E) e) else if ch a = 45 then pB (pr (a + 1)) (fun r e => pLs ch pr k (fun E => v E - r E) e) else .inr (v, a)
def pSm (ch : Nat → Int32) (pr : Nat → PX) (a : Nat) : PX := pB (pr a) (fun r e => pLs ch pr 70 r e)
def pAt (ch : Nat → Int32) (a : Nat) : PX :=
  if (48 : Int32) ≤ ch a ∧ ch a ≤ 57 then (match pNb ch 4 9999 a with
    | .inl f => .inl f
    | .inr q => .inr (fun _ => nI q.1, q.2))
  else if ch a = 110 then (match pNb ch 2 15 (a + 1) with
    | .inl f => .inl f
    | .inr q => .inr (fun E => E.1 q.1, q.2))
  else if ch a = 104 ∨ ch a = 109 ∨ ch a = 108 ∨ ch a = 100 ∨ ch a = 119 then .inr (fun E => E.2 (ch a), a + 1)
  else .inl a
def pTh (ch : Nat → Int32) : Nat → Nat → Nat → PX
  | 0, _, _ => .inl 0
  | n + 1, d, a => if ch a = 45 then pB (pTh ch n d (a + 1)) (fun v e => .inr (fun E => -(v E), e))
    else if ch a = 40 ∧ d < 4 then pB (pSm ch (pPr ch (pTh ch n (d + 1))) (a + 1)) (fun v e => if ch e = 41 then .inr (v, e + 1) else .inl e)
    else pAt ch a
/-- the whole of a sum -/
def pE (ch : Nat → Int32) (a : Nat) : PX := pSm ch (pPr ch (pTh ch 70 0)) a
/-- the signs of a text that is so long -/
def chT (m : Nat → Int32) (s : Nat) (k : Nat) : Int32 := if k < s ∧ (0 : Int32) ≤ m k then m k else -1
end PURE
