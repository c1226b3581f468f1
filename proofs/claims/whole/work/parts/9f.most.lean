/-! no 12 ways between 7 stations leave more than 37 paths: s, t, and a graph h on the five between -/
def S5 (f : Nat → Nat) : Nat := f 1 + f 2 + f 3 + f 4 + f 5
def ix (a b : Nat) : Nat := if a < b then (a - 1) * (10 - a) / 2 + (b - a - 1) else (b - 1) * (10 - b) / 2 + (a - b - 1)
def tH (h a c ps : Nat) : Bool := Nat.beq (ps / 2 ^ c % 2) 0 && (!(Nat.beq a c) && Nat.beq (h / 2 ^ ix a c % 2) 1)
def qH (h b : Nat) : Nat → Nat → Nat → Nat
  | 0, a, _ => if a = b then 1 else 0
  | n + 1, a, ps => (if a = b then 1 else 0) + S5 (fun c => if tH h a c ps = true then qH h b n c (ps ||| 2 ^ c) else 0)
def rowH (h A b : Nat) : Nat := S5 (fun a => if A / 2 ^ a % 2 = 1 then qH h b 4 a (1 ||| 2 ^ a) else 0)
def gm : List Nat → Nat → Nat → Bool
  | [], _, _ => true
  | r :: rs, k, lim => Nat.ble (r + rs.sum) lim || (gm rs k lim && (Nat.beq k 0 || (Nat.ble r lim && gm rs (k - 1) (lim - r))))
def pop (x : Nat) : Nat := x % 2 + x / 2 % 2 + x / 4 % 2 + x / 8 % 2 + x / 16 % 2 + x / 32 % 2 + x / 64 % 2 + x / 128 % 2 + x / 256 % 2 + x / 512 % 2
def rows (h A : Nat) : List Nat := [rowH h A 1, rowH h A 2, rowH h A 3, rowH h A 4, rowH h A 5]
def chkA (h e A : Nat) : Bool := gm (rows h A) (12 - e - pop A) 37 && (Nat.beq (12 - e - pop A) 0 || gm (rows h A) (12 - e - pop A - 1) 36)
def chkH (h : Nat) : Bool := (List.range 32).all fun A => chkA h (pop h) (2 * A)
theorem chkH_0 : ((List.range 128).all fun h => chkH (0 + h)) = true := by decide +kernel
theorem chkH_1 : ((List.range 128).all fun h => chkH (128 + h)) = true := by decide +kernel
theorem chkH_2 : ((List.range 128).all fun h => chkH (256 + h)) = true := by decide +kernel
theorem chkH_3 : ((List.range 128).all fun h => chkH (384 + h)) = true := by decide +kernel
theorem chkH_4 : ((List.range 128).all fun h => chkH (512 + h)) = true := by decide +kernel
theorem chkH_5 : ((List.range 128).all fun h => chkH (640 + h)) = true := by decide +kernel
theorem chkH_6 : ((List.range 128).all fun h => chkH (768 + h)) = true := by decide +kernel
theorem chkH_7 : ((List.range 128).all fun h => chkH (896 + h)) = true := by decide +kernel
theorem chkH_all {h : Nat} (hh : h < 1024) : chkH h = true := by
  have key : ∀ o, ((List.range 128).all fun h => chkH (o + h)) = true → o ≤ h → h < o + 128 → chkH h = true := fun o H h1 h2 => by
    have := List.all_eq_true.mp H (h - o) (List.mem_range.mpr (by omega))
    rw [show o + (h - o) = h by omega] at this
    exact this
  by_cases c1 : h < 128
  · exact key 0 chkH_0 (by omega) (by omega)
  · by_cases c2 : h < 256
    · exact key 128 chkH_1 (by omega) (by omega)
    · by_cases c3 : h < 384
      · exact key 256 chkH_2 (by omega) (by omega)
      · by_cases c4 : h < 512
        · exact key 384 chkH_3 (by omega) (by omega)
        · by_cases c5 : h < 640
          · exact key 512 chkH_4 (by omega) (by omega)
          · by_cases c6 : h < 768
            · exact key 640 chkH_5 (by omega) (by omega)
            · by_cases c7 : h < 896
              · exact key 768 chkH_6 (by omega) (by omega)
              · exact key 896 chkH_7 (by omega) (by omega)
