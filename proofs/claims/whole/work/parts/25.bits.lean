/-! bits -/
def bt (x : Int32) (k : Nat) : Bool := x.toBitVec.getLsbD k
theorem sh_k : ∀ k : Nat, k < 32 → ((nI k &&& 31).toBitVec.smod 32).toNat = k := by
  have h : ∀ k : Fin 32, ((nI k.val &&& 31).toBitVec.smod 32).toNat = k.val := by decide +kernel
  exact fun k hk => h ⟨k, hk⟩
theorem bt_one (x : Int32) : (x &&& 1 = 1) ↔ bt x 0 = true := by
  rw [← Int32.toBitVec_inj, Int32.toBitVec_and]
  unfold bt
  show (x.toBitVec &&& 1#32 = 1#32) ↔ _
  constructor
  · intro h
    have := congrArg (fun y : BitVec 32 => y.getLsbD 0) h
    simpa using this
  · intro h
    apply BitVec.eq_of_getLsbD_eq
    intro i hi
    by_cases h0 : i = 0
    · subst h0; simp [h]
    · simp [h0]
theorem bt_sh {x : Int32} {k : Nat} (hk : k < 32) : ((x >>> (nI k &&& 31)) &&& 1 = 1) ↔ bt x k = true := by
  rw [bt_one]
  have e : (x >>> (nI k &&& 31)).toBitVec = x.toBitVec.sshiftRight k := by
    rw [Int32.toBitVec_shiftRight]
    show x.toBitVec.sshiftRight (((nI k &&& 31).toBitVec.smod 32).toNat) = _
    rw [sh_k k hk]
  unfold bt
  rw [e, BitVec.getLsbD_sshiftRight]
  simp [hk]
theorem bt_and (x y : Int32) (k : Nat) : bt (x &&& y) k = (bt x k && bt y k) := by simp [bt]
theorem bt_or (x y : Int32) (k : Nat) : bt (x ||| y) k = (bt x k || bt y k) := by simp [bt]
theorem bt_not (x : Int32) {k : Nat} (hk : k < 32) : bt (x ^^^ (-1)) k = !bt x k := by
  have e : (-1 : Int32).toBitVec = BitVec.allOnes 32 := by decide
  simp [bt, e, hk]
theorem bt_nI {w k : Nat} (hk : k < 32) : bt (nI w) k = w.testBit k := by
  show (BitVec.ofNat 32 w).getLsbD k = _
  rw [BitVec.getLsbD_ofNat]
  simp [hk]
theorem sh_1 : ∀ k : Nat, k < 31 → (1 : Int32) <<< (nI k &&& 31) = nI (2 ^ k) := by
  have h : ∀ k : Fin 31, (1 : Int32) <<< (nI k.val &&& 31) = nI (2 ^ k.val) := by decide +kernel
  exact fun k hk => h ⟨k, hk⟩
theorem bt_1 {k j : Nat} (hk : k < 31) (hj : j < 32) : bt ((1 : Int32) <<< (nI k &&& 31)) j = decide (k = j) := by
  rw [sh_1 k hk, bt_nI hj, Nat.testBit_two_pow]
theorem nI_bits (x : Int32) : x = nI x.toBitVec.toNat := by
  apply Int32.toBitVec.inj
  show x.toBitVec = BitVec.ofNat 32 x.toBitVec.toNat
  simp
theorem bt_bits (x : Int32) (k : Nat) : x.toBitVec.toNat.testBit k = bt x k := rfl
theorem bits_and {w : Nat} (hw : w < 2 ^ 32) (y : Int32) : (nI w &&& y).toBitVec.toNat ≤ w := by
  have : (nI w &&& y).toBitVec.toNat = w &&& y.toBitVec.toNat := by
    rw [Int32.toBitVec_and, BitVec.toNat_and]
    show (BitVec.ofNat 32 w).toNat &&& _ = _
    rw [BitVec.toNat_ofNat, Nat.mod_eq_of_lt hw]
  rw [this]
  exact Nat.and_le_left
theorem bt_all {n k : Nat} (hn : n ≤ 10) (hk : k < 32) : bt (((1 : Int32) <<< (nI n &&& 31)) - 1) k = decide (k < n) := by
  have e : (1 : Int32) <<< (nI n &&& 31) - 1 = nI (2 ^ n - 1) := by
    rw [sh_1 n (by omega)]
    have := Nat.one_le_two_pow (n := n)
    rw [show (1 : Int32) = nI 1 from rfl, pk_sub this]
  rw [e, bt_nI hk, Nat.testBit_two_pow_sub_one]
def bcI (x0 : Int32) : Int32 := ((((((((x0 - (((x0.toUInt32 >>> ((1 : Int32).toUInt32 &&& Int32.toUInt32 31)).toInt32) &&& (1431655765 : Int32))) &&& (858993459 : Int32)) + ((((x0 - (((x0.toUInt32 >>> ((1 : Int32).toUInt32 &&& Int32.toUInt32 31)).toInt32) &&& (1431655765 : Int32))).toUInt32 >>> ((2 : Int32).toUInt32 &&& Int32.toUInt32 31)).toInt32) &&& (858993459 : Int32))) + (((((x0 - (((x0.toUInt32 >>> ((1 : Int32).toUInt32 &&& Int32.toUInt32 31)).toInt32) &&& (1431655765 : Int32))) &&& (858993459 : Int32)) + ((((x0 - (((x0.toUInt32 >>> ((1 : Int32).toUInt32 &&& Int32.toUInt32 31)).toInt32) &&& (1431655765 : Int32))).toUInt32 >>> ((2 : Int32).toUInt32 &&& Int32.toUInt32 31)).toInt32) &&& (858993459 : Int32))).toUInt32 >>> ((4 : Int32).toUInt32 &&& Int32.toUInt32 31)).toInt32)) &&& (252645135 : Int32)) + (((((((x0 - (((x0.toUInt32 >>> ((1 : Int32).toUInt32 &&& Int32.toUInt32 31)).toInt32) &&& (1431655765 : Int32))) &&& (858993459 : Int32)) + ((((x0 - (((x0.toUInt32 >>> ((1 : Int32).toUInt32 &&& Int32.toUInt32 31)).toInt32) &&& (1431655765 : Int32))).toUInt32 >>> ((2 : Int32).toUInt32 &&& Int32.toUInt32 31)).toInt32) &&& (858993459 : Int32))) + (((((x0 - (((x0.toUInt32 >>> ((1 : Int32).toUInt32 &&& Int32.toUInt32 31)).toInt32) &&& (1431655765 : Int32))) &&& (858993459 : Int32)) + ((((x0 - (((x0.toUInt32 >>> ((1 : Int32).toUInt32 &&& Int32.toUInt32 31)).toInt32) &&& (1431655765 : Int32))).toUInt32 >>> ((2 : Int32).toUInt32 &&& Int32.toUInt32 31)).toInt32) &&& (858993459 : Int32))).toUInt32 >>> ((4 : Int32).toUInt32 &&& Int32.toUInt32 31)).toInt32)) &&& (252645135 : Int32)).toUInt32 >>> ((8 : Int32).toUInt32 &&& Int32.toUInt32 31)).toInt32)) + ((((((((x0 - (((x0.toUInt32 >>> ((1 : Int32).toUInt32 &&& Int32.toUInt32 31)).toInt32) &&& (1431655765 : Int32))) &&& (858993459 : Int32)) + ((((x0 - (((x0.toUInt32 >>> ((1 : Int32).toUInt32 &&& Int32.toUInt32 31)).toInt32) &&& (1431655765 : Int32))).toUInt32 >>> ((2 : Int32).toUInt32 &&& Int32.toUInt32 31)).toInt32) &&& (858993459 : Int32))) + (((((x0 - (((x0.toUInt32 >>> ((1 : Int32).toUInt32 &&& Int32.toUInt32 31)).toInt32) &&& (1431655765 : Int32))) &&& (858993459 : Int32)) + ((((x0 - (((x0.toUInt32 >>> ((1 : Int32).toUInt32 &&& Int32.toUInt32 31)).toInt32) &&& (1431655765 : Int32))).toUInt32 >>> ((2 : Int32).toUInt32 &&& Int32.toUInt32 31)).toInt32) &&& (858993459 : Int32))).toUInt32 >>> ((4 : Int32).toUInt32 &&& Int32.toUInt32 31)).toInt32)) &&& (252645135 : Int32)) + (((((((x0 - (((x0.toUInt32 >>> ((1 : Int32).toUInt32 &&& Int32.toUInt32 31)).toInt32) &&& (1431655765 : Int32))) &&& (858993459 : Int32)) + ((((x0 - (((x0.toUInt32 >>> ((1 : Int32).toUInt32 &&& Int32.toUInt32 31)).toInt32) &&& (1431655765 : Int32))).toUInt32 >>> ((2 : Int32).toUInt32 &&& Int32.toUInt32 31)).toInt32) &&& (858993459 : Int32))) + (((((x0 - (((x0.toUInt32 >>> ((1 : Int32).toUInt32 &&& Int32.toUInt32 31)).toInt32) &&& (1431655765 : Int32))) &&& (858993459 : Int32)) + ((((x0 - (((x0.toUInt32 >>> ((1 : Int32).toUInt32 &&& Int32.toUInt32 31)).toInt32) &&& (1431655765 : Int32))).toUInt32 >>> ((2 : Int32).toUInt32 &&& Int32.toUInt32 31)).toInt32) &&& (858993459 : Int32))).toUInt32 >>> ((4 : Int32).toUInt32 &&& Int32.toUInt32 31)).toInt32)) &&& (252645135 : Int32)).toUInt32 >>> ((8 : Int32).toUInt32 &&& Int32.toUInt32 31)).toInt32)).toUInt32 >>> ((16 : Int32).toUInt32 &&& Int32.toUInt32 31)).toInt32)) &&& (63 : Int32))
theorem bcI_nI : ∀ w : Nat, w < 1024 → bcI (nI w) = nI (gCnt (fun k => w.testBit k) 10) := by
  have h : ∀ w : Fin 1024, bcI (nI w.val) = nI (gCnt (fun k => w.val.testBit k) 10) := by decide +kernel
  exact fun w hw => h ⟨w, hw⟩
theorem S_bitCount {O : List (Nat × Nat)} {d : Nat} {Q : Option MV → MS → Prop} {σ : MS} {w : Nat} (hw : w < 1024) (H : Q (some (iV (nI (gCnt (fun k => w.testBit k) 10)))) σ) : R O d mJ6_bitCount_0f7a4 Q 0 [some (iV (nI w))] [] σ := by
  refine bJ6_bitCount_0f7a4_0 ?_
  have e := bcI_nI w hw
  unfold bcI at e
  rw [e]
  exact H
theorem gCnt_ext {p : Nat → Bool} {n : Nat} : ∀ m, n ≤ m → (∀ k, n ≤ k → p k = false) → gCnt p m = gCnt p n := by
  intro m
  induction m with
  | zero => intro h _; rw [show n = 0 by omega]
  | succ m ih =>
    intro h hp
    by_cases hm : n = m + 1
    · rw [hm]
    · rw [gCnt, ih (by omega) hp, hp m (by omega)]; simp
