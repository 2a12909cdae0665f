/-! what is answered is said of the rows that say what is so, and of no others -/
def prj (h : aH) : aH := fun r => bif (Nat.beq r 2 || (Nat.ble 16 r && Nat.ble r 20) || (Nat.ble 22 r && Nat.ble r 27) || Nat.beq r 29 || Nat.beq r 30 || Nat.beq r 32 || Nat.beq r 33 || (Nat.ble 58 r && Nat.ble r 67)) then h r else fun _ => 0
theorem prj_kp {h h' : aH} (kp : Kp h h') : prj h' = prj h := by
  funext r
  unfold prj
  cases hb : (Nat.beq r 2 || (Nat.ble 16 r && Nat.ble r 20) || (Nat.ble 22 r && Nat.ble r 27) || Nat.beq r 29 || Nat.beq r 30 || Nat.beq r 32 || Nat.beq r 33 || (Nat.ble 58 r && Nat.ble r 67)) with
  | false => rfl
  | true =>
    have m : r ∈ PR := by
      simp only [Bool.or_eq_true, Bool.and_eq_true, Nat.beq_eq, Nat.ble_eq] at hb
      unfold PR
      simp only [List.mem_cons, List.not_mem_nil, or_false]
      omega
    exact kp r m
theorem prj_vOf (h : aH) : vOf h = vOf (prj h) := rfl
theorem kp_vOf {h h' : aH} (kp : Kp h h') : vOf h' = vOf h := by rw [prj_vOf h', prj_vOf h, prj_kp kp]
theorem prj_vHears (h : aH) : vHears h = vHears (prj h) := rfl
theorem kp_vHears {h h' : aH} (kp : Kp h h') : vHears h' = vHears h := by rw [prj_vHears h', prj_vHears h, prj_kp kp]
theorem prj_vSound (h : aH) : vSound h = vSound (prj h) := rfl
theorem kp_vSound {h h' : aH} (kp : Kp h h') : vSound h' = vSound h := by rw [prj_vSound h', prj_vSound h, prj_kp kp]
theorem prj_vTwice (h : aH) : vTwice h = vTwice (prj h) := rfl
theorem kp_vTwice {h h' : aH} (kp : Kp h h') : vTwice h' = vTwice h := by rw [prj_vTwice h', prj_vTwice h, prj_kp kp]
theorem prj_vTwiceAt (h : aH) : vTwiceAt h = vTwiceAt (prj h) := rfl
theorem kp_vTwiceAt {h h' : aH} (kp : Kp h h') : vTwiceAt h' = vTwiceAt h := by rw [prj_vTwiceAt h', prj_vTwiceAt h, prj_kp kp]
theorem prj_vLies (h : aH) : vLies h = vLies (prj h) := rfl
theorem kp_vLies {h h' : aH} (kp : Kp h h') : vLies h' = vLies h := by rw [prj_vLies h', prj_vLies h, prj_kp kp]
theorem prj_vAgain (h : aH) : vAgain h = vAgain (prj h) := rfl
theorem kp_vAgain {h h' : aH} (kp : Kp h h') : vAgain h' = vAgain h := by rw [prj_vAgain h', prj_vAgain h, prj_kp kp]
theorem prj_vUp (h : aH) : vUp h = vUp (prj h) := rfl
theorem kp_vUp {h h' : aH} (kp : Kp h h') : vUp h' = vUp h := by rw [prj_vUp h', prj_vUp h, prj_kp kp]
theorem prj_vWoken (h : aH) : vWoken h = vWoken (prj h) := rfl
theorem kp_vWoken {h h' : aH} (kp : Kp h h') : vWoken h' = vWoken h := by rw [prj_vWoken h', prj_vWoken h, prj_kp kp]
theorem prj_vWorst (h : aH) : vWorst h = vWorst (prj h) := rfl
theorem kp_vWorst {h h' : aH} (kp : Kp h h') : vWorst h' = vWorst h := by rw [prj_vWorst h', prj_vWorst h, prj_kp kp]
theorem prj_vHours (h : aH) : vHours h = vHours (prj h) := rfl
theorem kp_vHours {h h' : aH} (kp : Kp h h') : vHours h' = vHours h := by rw [prj_vHours h', prj_vHours h, prj_kp kp]
theorem prj_vDeaf (h : aH) : vDeaf h = vDeaf (prj h) := rfl
theorem kp_vDeaf {h h' : aH} (kp : Kp h h') : vDeaf h' = vDeaf h := by rw [prj_vDeaf h', prj_vDeaf h, prj_kp kp]
theorem prj_vWalk (h : aH) : vWalk h = vWalk (prj h) := rfl
theorem kp_vWalk {h h' : aH} (kp : Kp h h') : vWalk h' = vWalk h := by rw [prj_vWalk h', prj_vWalk h, prj_kp kp]
theorem prj_vSwaps (h : aH) : vSwaps h = vSwaps (prj h) := rfl
theorem kp_vSwaps {h h' : aH} (kp : Kp h h') : vSwaps h' = vSwaps h := by rw [prj_vSwaps h', prj_vSwaps h, prj_kp kp]
theorem prj_vSwapAt (h : aH) : vSwapAt h = vSwapAt (prj h) := rfl
theorem kp_vSwapAt {h h' : aH} (kp : Kp h h') : vSwapAt h' = vSwapAt h := by rw [prj_vSwapAt h', prj_vSwapAt h, prj_kp kp]
theorem prj_vWorth (h : aH) : vWorth h = vWorth (prj h) := rfl
theorem kp_vWorth {h h' : aH} (kp : Kp h h') : vWorth h' = vWorth h := by rw [prj_vWorth h', prj_vWorth h, prj_kp kp]
theorem prj_vAlone (h : aH) : vAlone h = vAlone (prj h) := rfl
theorem kp_vAlone {h h' : aH} (kp : Kp h h') : vAlone h' = vAlone h := by rw [prj_vAlone h', prj_vAlone h, prj_kp kp]
theorem prj_vMondays (h : aH) : vMondays h = vMondays (prj h) := rfl
theorem kp_vMondays {h h' : aH} (kp : Kp h h') : vMondays h' = vMondays h := by rw [prj_vMondays h', prj_vMondays h, prj_kp kp]
theorem prj_vMW (h : aH) : vMW h = vMW (prj h) := rfl
theorem kp_vMW {h h' : aH} (kp : Kp h h') : vMW h' = vMW h := by rw [prj_vMW h', prj_vMW h, prj_kp kp]
theorem prj_vFire (h : aH) : vFire h = vFire (prj h) := rfl
theorem kp_vFire {h h' : aH} (kp : Kp h h') : vFire h' = vFire h := by rw [prj_vFire h', prj_vFire h, prj_kp kp]
theorem prj_vReach (h : aH) : vReach h = vReach (prj h) := rfl
theorem kp_vReach {h h' : aH} (kp : Kp h h') : vReach h' = vReach h := by rw [prj_vReach h', prj_vReach h, prj_kp kp]
theorem prj_vDay (h : aH) : vDay h = vDay (prj h) := rfl
theorem kp_vDay {h h' : aH} (kp : Kp h h') : vDay h' = vDay h := by rw [prj_vDay h', prj_vDay h, prj_kp kp]
theorem prj_vDays (h : aH) : vDays h = vDays (prj h) := rfl
theorem kp_vDays {h h' : aH} (kp : Kp h h') : vDays h' = vDays h := by rw [prj_vDays h', prj_vDays h, prj_kp kp]
theorem prj_BANS (h : aH) : BANS h = BANS (prj h) := rfl
theorem kp_BANS {h h' : aH} (kp : Kp h h') : BANS h' = BANS h := by rw [prj_BANS h', prj_BANS h, prj_kp kp]
theorem prj_BAT (h : aH) : BAT h = BAT (prj h) := rfl
theorem kp_BAT {h h' : aH} (kp : Kp h h') : BAT h' = BAT h := by rw [prj_BAT h', prj_BAT h, prj_kp kp]
theorem prj_FEW (h : aH) : FEW h = FEW (prj h) := rfl
theorem kp_FEW {h h' : aH} (kp : Kp h h') : FEW h' = FEW h := by rw [prj_FEW h', prj_FEW h, prj_kp kp]
theorem prj_SAN (h : aH) : SAN h = SAN (prj h) := rfl
theorem kp_SAN {h h' : aH} (kp : Kp h h') : SAN h' = SAN h := by rw [prj_SAN h', prj_SAN h, prj_kp kp]
theorem prj_SHA (h : aH) : SHA h = SHA (prj h) := rfl
theorem kp_SHA {h h' : aH} (kp : Kp h h') : SHA h' = SHA h := by rw [prj_SHA h', prj_SHA h, prj_kp kp]
theorem prj_RANS (h : aH) : RANS h = RANS (prj h) := rfl
theorem kp_RANS {h h' : aH} (kp : Kp h h') : RANS h' = RANS h := by rw [prj_RANS h', prj_RANS h, prj_kp kp]
theorem prj_RAT (h : aH) : RAT h = RAT (prj h) := rfl
theorem kp_RAT {h h' : aH} (kp : Kp h h') : RAT h' = RAT h := by rw [prj_RAT h', prj_RAT h, prj_kp kp]
theorem kp_vWhose {h h' : aH} (kp : Kp h h') : vWhose h' = vWhose h := by
  funext w
  unfold vWhose
  rw [WHS_kp kp]
