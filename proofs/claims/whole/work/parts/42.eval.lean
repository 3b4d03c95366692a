/-! ===== what the texts say, as numbers ===== -/
def clp (x : Int) : Int := if x < -1000000 then -1000000 else if 1000000 < x then 1000000 else x
/-- one operation on values and truths (each its last first) -/
def ev1 (nm : Nat → Int) (o : Nat) (p : List Int × List Bool) : List Int × List Bool :=
  if 100 ≤ o then (((o - 100 : Nat) : Int) :: p.1, p.2)
  else if o < 8 then (nm o :: p.1, p.2)
  else if o = 29 then (match p.1 with
    | x :: l => (-x :: l, p.2)
    | [] => p)
  else if o = 10 then (match p.2 with
    | x :: l => (p.1, (!x) :: l)
    | [] => p)
  else if o = 8 then (match p.2 with
    | y :: x :: l => (p.1, (x && y) :: l)
    | _ => p)
  else if o = 9 then (match p.2 with
    | y :: x :: l => (p.1, (x || y) :: l)
    | _ => p)
  else (match p.1 with
    | y :: x :: l => if o = 14 then (clp (x + y) :: l, p.2) else if o = 15 then (clp (x - y) :: l, p.2) else if o = 16 then (clp (x * y) :: l, p.2) else if o = 17 then ((if y = 0 then 0 else clp (x.tdiv y)) :: l, p.2)
      else if o = 18 then (l, decide (x < y) :: p.2) else if o = 19 then (l, decide (x ≤ y) :: p.2) else if o = 20 then (l, decide (y < x) :: p.2) else if o = 21 then (l, decide (y ≤ x) :: p.2) else if o = 22 then (l, decide (x = y) :: p.2) else (l, decide (¬ x = y) :: p.2)
    | _ => p)
def evs (nm : Nat → Int) : List Nat → List Int × List Bool → List Int × List Bool
  | [], p => p
  | o :: l, p => evs nm l (ev1 nm o p)
def hld (x lo hi : Int) : Int := if x < lo then lo else if hi < x then hi else x
/-- the names' numbers: hour weight sail wind last place lane fast -/
def nms (hour weight sail wind last place lane fast : Int) (q : Nat) : Int := if q = 0 then hour else if q = 1 then weight else if q = 2 then sail else if q = 3 then wind else if q = 4 then last else if q = 5 then place else if q = 6 then lane else fast
def spd (T : Tc) (wt : Int) (lane place hour last sail wind : Int) : Int := match T 0 with
  | none => 1
  | some l => hld ((evs (nms hour wt sail wind last place lane 0) l ([], [])).1.headD 0) 1 4
def drt (T : Tc) (wt : Int) (hour speed : Int) : Int := match T 1 with
  | none => 0
  | some l => hld ((evs (nms hour wt 0 0 0 0 0 speed) l ([], [])).1.headD 0) 0 9
def hgh (T : Tc) (wt : Int) (hour place : Int) : Bool := match T 2 with
  | none => true
  | some l => (evs (nms hour wt 0 0 0 place 0 0) l ([], [])).2.headD false
/-- what of the reference's row the outcomes hang on -/
def sea (a : Nat → Int32) : Nat → Int32 := fun j => if j < 2 ∨ (30 ≤ j ∧ j < 66) then a j else 0
/-- at this place, with that draught, it is aground -/
def bad (T : Tc) (e : Nat → Int32) (lane : Nat) (hour : Nat) (d : Int) (p : Nat) : Prop := (e (30 + 12 * lane + p)).toInt < d ∨ (f123 (e 0) (nI p) = 1 ∧ hgh T (e 1).toInt hour p = false)
def flt (n : Nat) (T : Tc) (e : Nat → Int32) (lane place hour speed : Nat) : Prop := ∀ k, 1 ≤ k → k ≤ speed → ¬ bad T e lane hour (drt T (e 1).toInt hour speed) ((place + k) % n)
/-- what becomes of a state in a lane: with that speed -/
def OcS (n : Nat) (T : Tc) (e : Nat → Int32) (lane place hour speed : Nat) (r : Int32) : Prop := (flt n T e lane place hour speed ∧ r = nI (((12 * lane + (place + speed) % n) * 8 + (hour + 1) % 8) * 5 + speed)) ∨ ∃ k, 1 ≤ k ∧ k ≤ speed ∧ (∀ j, 1 ≤ j → j < k → ¬ bad T e lane hour (drt T (e 1).toInt hour speed) ((place + j) % n)) ∧ bad T e lane hour (drt T (e 1).toInt hour speed) ((place + k) % n) ∧ r = nI (2000 + 12 * lane + (place + k) % n)
def ist (n s : Nat) : Prop := s < 1440 ∧ s / 40 % 12 < n ∧ 0 < s % 5
/-- the outcome of state s, choice c, wind w -/
def Oc (n : Nat) (T : Tc) (e : Nat → Int32) (s c w : Nat) (r : Int32) : Prop := if 1 ≤ s / 480 + c / 4 ∧ s / 480 + c / 4 ≤ 3 then OcS n T e (s / 480 + c / 4 - 1) (s / 40 % 12) (s / 5 % 8) (spd T (e 1).toInt ((s / 480 + c / 4 - 1 : Nat) : Int) ((s / 40 % 12 : Nat) : Int) ((s / 5 % 8 : Nat) : Int) ((s % 5 : Nat) : Int) ((c % 4 : Nat) : Int) (w : Int)).toNat r else r = -1
/-! the class's chart -/
def bt (x : Int32) (k : Nat) : Prop := f123 x (nI k) = 1
def PR (T : Tc) (wt : Int) (wi : Int32) (hour lane place last : Nat) (x y : Int32) : Prop := (∀ sail s, sail < 4 → 1 ≤ s → s ≤ 4 → (bt x (4 * sail + s - 1) ↔ ∃ w, w < 4 ∧ bt wi w ∧ spd T wt lane place hour last sail w = s)) ∧ (∀ g, g < 16 → (bt y g ↔ ∃ sail, sail < 4 ∧ ∀ s, 1 ≤ s → s ≤ 4 → bt x (4 * sail + s - 1) → bt (nI g) (s - 1)))
def Paced (n : Nat) (T : Tc) (wt : Int) (wi : Int32) (hour : Nat) (sp en : Nat → Int32) : Prop := ∀ lane place last, lane < 3 → place < n → 1 ≤ last → last ≤ 4 → PR T wt wi hour lane place last (sp (((lane * 12 + place) * 8 + hour) * 4 + last - 1)) (en (((lane * 12 + place) * 8 + hour) * 4 + last - 1))
def Sounded (n : Nat) (T : Tc) (e : Nat → Int32) (hour : Nat) (af : Nat → Int32) : Prop := ∀ lane place s, lane < 3 → place < n → 1 ≤ s → s ≤ 4 → (bt (af ((lane * 12 + place) * 8 + hour)) (s - 1) ↔ flt n T e lane place hour s)
/-- kept for k hours -/
def Kp (n : Nat) (T : Tc) (a : Nat → Int32) : Nat → Nat → Prop
  | 0, s => ist n s
  | k + 1, s => ist n s ∧ ∃ c, c < 12 ∧ ∀ w, w < 4 → bt (a (20 + s / 5 % 8)) w → ∃ r, r < 1440 ∧ Oc n T (sea a) s c w (nI r) ∧ Kp n T a k r
def rw4 (s : Nat) : Nat := (s / 5) * 4 + s % 5 - 1
/-- the settled chart: hours are for how many each state is kept; ahead is when all stand still -/
def Settled (n : Nat) (T : Tc) (a : Nat → Int32) (ho : Nat → Int32) (ahd : Int32) : Prop := ∃ A : Nat, A ≤ 1152 ∧ ahd = nI A ∧ (∀ s, ist n s → (ho (rw4 s) = nI 1000000 ∧ ∀ k, Kp n T a k s) ∨ ∃ m : Nat, m < A ∧ ho (rw4 s) = nI m ∧ Kp n T a m s ∧ ¬ Kp n T a (m + 1) s) ∧ (∀ k, k < A → ∃ s, Kp n T a k s ∧ ¬ Kp n T a (k + 1) s)
def Ch (n : Nat) (T : Tc) (hx : Hp) (a : Nat → Int32) : Prop := (∀ h, h < 8 → bt (hI hx 64 10) h → Paced n T (a 1).toInt (a (20 + h)) h (hI hx 65) (hI hx 66)) ∧ (∀ h, h < 8 → bt (hI hx 64 11) h → Sounded n T (sea a) h (hI hx 67)) ∧ (hI hx 64 12 = 0 ∨ (hI hx 64 12 = 1 ∧ Settled n T a (hI hx 68) (hI hx 64 13) ∧ (∀ h, h < 8 → bt (hI hx 64 10) h) ∧ ∀ h, h < 8 → bt (hI hx 64 11) h)) ∧ ((hR hx 64 6 = some 69 ∧ hR hx 64 7 = some 70) ∨ (hR hx 64 6 = some 70 ∧ hR hx 64 7 = some 69)) ∧ ((hR hx 64 8 = some 71 ∧ hR hx 64 9 = some 72) ∨ (hR hx 64 8 = some 72 ∧ hR hx 64 9 = some 71))
/-! the reference's table -/
def Tb (n : Nat) (T : Tc) (hm : Hp) : Prop := hI hm 0 27 = 0 ∨ (hI hm 0 27 = 1 ∧ ∀ s k, ist n s → k < 48 → Oc n T (sea (hI hm 1)) s (k / 4) (k % 4) (hI hm 9 (48 * s + k)))
def Rl (n L : Nat) (T : Nat → Tc) (hx hm : Hp) : Prop := (4 ≤ n ∧ n ≤ 12) ∧ hI hx 41 0 = nI n ∧ hI hm 0 2 = nI n ∧ Sc n L (fun k => hI hx (27 + k)) (hI hm 1) ∧ Sc n L (fun k => hI hx (44 + k)) (hI hm 2) ∧ Tp hx hm ∧ Fl hx hm ∧ Tx T hx hm ∧ Lw hx hm ∧ Ch n (Tr T (hI hm 1 3)) hx (hI hm 1) ∧ Tb n (Tr T (hI hm 1 3)) hm
