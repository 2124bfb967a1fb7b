/-! ===== 42.brute: what is finite and small ===== -/
/-- one to three figures, 1 .. 6 -/
def isF (c : Nat) : Bool := decide (1 ≤ c) && decide (c ≤ 666) && decide (1 ≤ c % 10) && decide (c % 10 ≤ 6) && (decide (c < 10) || (decide (1 ≤ c / 10 % 10) && decide (c / 10 % 10 ≤ 6))) && (decide (c < 100) || (decide (1 ≤ c / 100) && decide (c / 100 ≤ 6)))
def nd (c : Nat) : Nat := c / 100 * 49 + c / 10 % 10 * 7 + c % 10
/-- a string of a pattern -/
def isS (c : Nat) : Bool := isF c && !(c == 6) && !(c == 66) && (decide (c < 100) || !(c / 10 % 10 == 6))
def isSn (n : Nat) : Bool := decide (1 ≤ n) && !(n == 6) && !(n == 48) && (decide (n < 49) || !(n / 7 % 7 == 6))
set_option maxRecDepth 100000 in
theorem bf_nodeOf : ∀ c, c < 667 → m_X2_nodeOf 3000 (nI c) = some (if isF c then nI (nd c) else -1) := by decide +kernel
set_option maxRecDepth 100000 in
theorem bf_isString : ∀ n, n < 343 → m_X2_isString 3000 (nI n) = some (if isSn n then 1 else 0) := by decide +kernel
set_option maxRecDepth 100000 in
theorem bf_signsOf : ∀ n, n < 343 → m_X2_signsOf 3000 (nI n) = some (nI (if n < 7 then 1 else if n < 49 then 2 else 3)) := by decide +kernel
set_option maxRecDepth 100000 in
theorem bf_figuresOf : ∀ n, n < 343 → m_X2_figuresOf 3000 (nI n) = m_X11_figures 3000 (nI n) := by decide +kernel
set_option maxRecDepth 100000 in
theorem bf_areF : ∀ c, c < 1000 → m_X11_areFigures 3000 (nI c) 1 3 6 = some (if isF c then 1 else 0) := by decide +kernel
set_option maxRecDepth 100000 in
theorem bf_isS : ∀ c, c < 1000 → m_X11_isString 3000 (nI c) = some (if isS c then 1 else 0) := by decide +kernel
set_option maxRecDepth 100000 in
theorem bf_sevens : ∀ c, c < 1000 → m_X11_sevens 3000 (nI c) = some (nI (nd c)) := by decide +kernel
set_option maxRecDepth 100000 in
theorem bf_F : ∀ c, c < 667 → isF c = true → nd c < 343 ∧ 1 ≤ nd c ∧ isSn (nd c) = isS c ∧ dl c = (if nd c < 7 then 1 else if nd c < 49 then 2 else 3) := by decide +kernel
set_option maxRecDepth 100000 in
theorem bf_bits : ∀ x, x < 64 → m_J6_bitCount_0f7a4 3000 (nI x) = m_X11_many 3000 (nI x) := by decide +kernel
def pop (x : Nat) : Nat := x % 2 + x / 2 % 2 + x / 4 % 2 + x / 8 % 2 + x / 16 % 2 + x / 32 % 2
set_option maxRecDepth 100000 in
theorem bf_many : ∀ x, x < 64 → m_X11_many 3000 (nI x) = some (nI (pop x)) := by decide +kernel
