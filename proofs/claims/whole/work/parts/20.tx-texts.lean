/-! TEXTS: terms and formulas as lists of character codes, read from the end to the front; nothing of the machine. -/
/-- + - * -/
def tx_o (c : Int32) : Bool := c == 43 || (c == 45 || c == 42)
/-- a number: 0 .. 7, a b c, x -/
def tx_n (c : Int32) : Bool := (decide (48 ≤ c) && decide (c ≤ 55)) || ((decide (97 ≤ c) && decide (c ≤ 99)) || c == 120)
/-- ... or z -/
def tx_z (c : Int32) : Bool := tx_n c || c == 122
/-- = < -/
def tx_q (c : Int32) : Bool := c == 61 || c == 60
/-- & | > -/
def tx_b (c : Int32) : Bool := c == 38 || (c == 124 || c == 62)
/-- what a character does to a stack of types (true: a truth, false: a number) -/
def tx_s (c : Int32) (st : List Bool) : Option (List Bool) :=
  if tx_z c then some (false :: st)
  else if c == 84 then some (true :: st)
  else if tx_o c then (match st with
    | false :: false :: t => some (false :: t)
    | _ => none)
  else if tx_q c then (match st with
    | false :: false :: t => some (true :: t)
    | _ => none)
  else if c == 33 then (match st with
    | true :: t => some (true :: t)
    | _ => none)
  else if tx_b c then (match st with
    | true :: true :: t => some (true :: t)
    | _ => none)
  else none
def tx_f : List Int32 → List Bool → Option (List Bool)
  | [], st => some st
  | c :: t, st => (tx_f t st).bind (tx_s c)
theorem tx_f_app (u v : List Int32) (st : List Bool) : tx_f (u ++ v) st = (tx_f v st).bind (tx_f u) := by
  induction u with
  | nil => cases h : tx_f v st <;> simp [tx_f, h]
  | cons c u ih =>
    show (tx_f (u ++ v) st).bind (tx_s c) = _
    rw [ih]
    cases h : tx_f v st <;> rfl
/-- a formula, a term -/
def tx_F (t : List Int32) : Prop := ∀ st, tx_f t st = some (true :: st)
def tx_T (t : List Int32) : Prop := ∀ st, tx_f t st = some (false :: st)
/-- the wrong place, when m terms and then n formulas are wanted; none: there is none -/
def tx_w : Nat → Nat → List Int32 → Option Nat
  | m, n, [] => if 0 < m ∨ 0 < n then some 0 else none
  | m, n, c :: t =>
    if 0 < m then
      if tx_o c then (tx_w (m + 1) n t).map (· + 1)
      else if tx_n c then (tx_w (m - 1) n t).map (· + 1)
      else some 0
    else if n = 0 then some 0
    else if tx_q c then (tx_w 2 (n - 1) t).map (· + 1)
    else if tx_b c then (tx_w 0 (n + 1) t).map (· + 1)
    else if c == 84 then (tx_w 0 (n - 1) t).map (· + 1)
    else if c == 33 then (tx_w 0 n t).map (· + 1)
    else some 0
theorem tx_s_o {c : Int32} (h : tx_o c = true) (st : List Bool) : tx_s c (false :: false :: st) = some (false :: st) := by
  have h1 : c = 43 ∨ c = 45 ∨ c = 42 := by simpa [tx_o] using h
  rcases h1 with rfl | rfl | rfl <;> rfl
theorem tx_s_q {c : Int32} (h : tx_q c = true) (st : List Bool) : tx_s c (false :: false :: st) = some (true :: st) := by
  have h1 : c = 61 ∨ c = 60 := by simpa [tx_q] using h
  rcases h1 with rfl | rfl <;> rfl
theorem tx_s_b {c : Int32} (h : tx_b c = true) (st : List Bool) : tx_s c (true :: true :: st) = some (true :: st) := by
  have h1 : c = 38 ∨ c = 124 ∨ c = 62 := by simpa [tx_b] using h
  rcases h1 with rfl | rfl | rfl <;> rfl
theorem tx_s_n {c : Int32} (h : tx_z c = true) (st : List Bool) : tx_s c st = some (false :: st) := by
  unfold tx_s; rw [if_pos h]
theorem tx_map1 {o : Option Nat} (h : o.map (· + 1) = none) : o = none := by cases o <;> simp_all
/-- what is right is read as it should be -/
theorem tx_w_ok (t : List Int32) : ∀ (m n : Nat), tx_w m n t = none → ∀ st, tx_f t st = some (List.replicate m false ++ (List.replicate n true ++ st)) := by
  induction t with
  | nil =>
    intro m n h st
    unfold tx_w at h
    split at h
    next => cases h
    next hn =>
      have h1 : m = 0 := by omega
      have h2 : n = 0 := by omega
      subst h1; subst h2; rfl
  | cons c t ih =>
    intro m n h st
    unfold tx_w at h
    show (tx_f t st).bind (tx_s c) = _
    split at h
    next hm =>
      obtain ⟨m, rfl⟩ : ∃ m', m = m' + 1 := ⟨m - 1, by omega⟩
      split at h
      next hc =>
        rw [ih _ _ (tx_map1 h) st]
        exact tx_s_o hc _
      next =>
        split at h
        next hc =>
          rw [ih _ _ (tx_map1 h) st]
          exact tx_s_n (by unfold tx_z; rw [hc]; rfl) _
        next => cases h
    next hm =>
      have hm0 : m = 0 := by omega
      subst hm0
      split at h
      next => cases h
      next hn =>
        obtain ⟨n, rfl⟩ : ∃ n', n = n' + 1 := ⟨n - 1, by omega⟩
        split at h
        next hc =>
          rw [ih _ _ (tx_map1 h) st]
          exact tx_s_q hc _
        next =>
          split at h
          next hc =>
            rw [ih _ _ (tx_map1 h) st]
            exact tx_s_b hc _
          next =>
            split at h
            next hc =>
              rw [ih _ _ (tx_map1 h) st, eq_of_beq hc]
              rfl
            next =>
              split at h
              next hc =>
                rw [ih _ _ (tx_map1 h) st, eq_of_beq hc]
                rfl
              next => cases h
theorem tx_w_F {t : List Int32} (h : tx_w 0 1 t = none) : tx_F t := fun st => tx_w_ok t 0 1 h st
theorem tx_w_T {t : List Int32} (h : tx_w 1 0 t = none) : tx_T t := fun st => tx_w_ok t 1 0 h st
/-- how formulas are put together -/
theorem tx_F_b {c : Int32} {u v : List Int32} (hc : tx_b c = true) (hu : tx_F u) (hv : tx_F v) : tx_F (c :: (u ++ v)) := fun st => by
  show (tx_f (u ++ v) st).bind (tx_s c) = _
  rw [tx_f_app, hv st]
  show (tx_f u (true :: st)).bind (tx_s c) = _
  rw [hu]
  exact tx_s_b hc st
theorem tx_F_q {c : Int32} {u v : List Int32} (hc : tx_q c = true) (hu : tx_T u) (hv : tx_T v) : tx_F (c :: (u ++ v)) := fun st => by
  show (tx_f (u ++ v) st).bind (tx_s c) = _
  rw [tx_f_app, hv st]
  show (tx_f u (false :: st)).bind (tx_s c) = _
  rw [hu]
  exact tx_s_q hc st
theorem tx_F_not {u : List Int32} (hu : tx_F u) : tx_F (33 :: u) := fun st => by
  show (tx_f u st).bind (tx_s 33) = _
  rw [hu]; rfl
theorem tx_T_z : tx_T [122] := fun _ => rfl
/-- a term in the place of a variable -/
def tx_r (v : Int32) (e : List Int32) : List Int32 → List Int32
  | [] => []
  | c :: t => if c = v then e ++ tx_r v e t else c :: tx_r v e t
theorem tx_r_f {v : Int32} {e : List Int32} (hv : tx_z v = true) (he : tx_T e) (t : List Int32) (st : List Bool) : tx_f (tx_r v e t) st = tx_f t st := by
  induction t with
  | nil => rfl
  | cons c t ih =>
    unfold tx_r
    split
    next hc =>
      subst hc
      rw [tx_f_app, ih]
      show _ = (tx_f t st).bind (tx_s c)
      cases tx_f t st with
      | none => rfl
      | some z => show tx_f e z = tx_s c z; rw [he, tx_s_n hv]
    next =>
      show (tx_f (tx_r v e t) st).bind (tx_s c) = (tx_f t st).bind (tx_s c)
      rw [ih]
theorem tx_r_F {v : Int32} {e t : List Int32} (hv : tx_z v = true) (he : tx_T e) (ht : tx_F t) : tx_F (tx_r v e t) := fun st => by rw [tx_r_f hv he]; exact ht st
/-- worth: one character on a stack of numbers (a truth is 1 or 0) -/
def tx_j (c a b : Int32) : Int32 :=
  if c == 43 then (a + b) &&& 7 else if c == 45 then (a - b) &&& 7 else if c == 42 then (a * b) &&& 7
  else if c == 61 then (if a = b then 1 else 0) else if c == 60 then (if a < b then 1 else 0)
  else if c == 38 then a &&& b else if c == 124 then a ||| b else (1 - a) ||| b
def tx_v (g : Int32 → Int32) (c : Int32) (st : List Int32) : List Int32 :=
  if c == 84 then 1 :: st
  else if c == 33 then (match st with
    | v :: t => (1 - v) :: t
    | [] => [])
  else if tx_z c then g c :: st
  else (match st with
    | v :: w :: t => tx_j c v w :: t
    | t => t)
def tx_e (g : Int32 → Int32) : List Int32 → List Int32 → List Int32
  | [], st => st
  | c :: t, st => tx_v g c (tx_e g t st)
theorem tx_e_app (g : Int32 → Int32) (u v : List Int32) (st : List Int32) : tx_e g (u ++ v) st = tx_e g u (tx_e g v st) := by
  induction u with
  | nil => rfl
  | cons c u ih => show tx_v g c (tx_e g (u ++ v) st) = _; rw [ih]; rfl
/-- the value of a text -/
def tx_x (g : Int32 → Int32) (t : List Int32) : Int32 := (tx_e g t []).headD 0
