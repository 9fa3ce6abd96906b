/-! ===== heats: both sides find the same (mine) ===== -/
theorem pmt_c {f g : Nat → Nat} {c all : Nat} : ∀ i, (∀ j, j < i → f j = g j) → pmt f c all i = pmt g c all i := by
  intro i
  induction i with
  | zero => intro _; rfl
  | succ i ih =>
    intro h
    show (if c / 2 ^ (all - 1 - i) % 2 = 1 then pmt f c all i ||| f i else pmt f c all i) = (if c / 2 ^ (all - 1 - i) % 2 = 1 then pmt g c all i ||| g i else pmt g c all i)
    rw [ih (fun j hj => h j (by omega)), h i (by omega)]
theorem aM1_c {f g : Nat → Nat} {c all x : Nat} : ∀ i, (∀ j, j < i → f j = g j) → aM1 f c all x i = aM1 g c all x i := by
  intro i
  induction i with
  | zero => intro _; rfl
  | succ i ih =>
    intro h
    show (if c / 2 ^ (all - 1 - i) % 2 = 1 ∧ f i / 2 ^ x % 2 = 1 then aM1 f c all x i ||| f i else aM1 f c all x i) = (if c / 2 ^ (all - 1 - i) % 2 = 1 ∧ g i / 2 ^ x % 2 = 1 then aM1 g c all x i ||| g i else aM1 g c all x i)
    rw [ih (fun j hj => h j (by omega)), h i (by omega)]
theorem aMB_c {f g : Nat → Nat} {c all n : Nat} (h : ∀ j, j < all → f j = g j) : ∀ i, aMB f c all n i = aMB g c all n i := by
  intro i
  induction i with
  | zero => rfl
  | succ i ih =>
    show (aMB f c all n i && (aM1 f c all i all == 2 ^ n - 1)) = (aMB g c all n i && (aM1 g c all i all == 2 ^ n - 1))
    rw [ih, aM1_c all h]
def hL22 (i : Nat) : Nat := [3].getD i 0
def hM22 (i : Nat) : Nat := [2].getD i 0
theorem hc22 : stC 2 (2 ^ 2) = 1 ∧ pI1 (2 ^ 2 - 1) 5 = 2 := by decide +kernel
theorem hl22 : ∀ i, i < 1 → stB 2 (2 ^ 2) i = hL22 i ∧ pI1 (stB 2 (2 ^ 2) i) 5 = hM22 i := by decide +kernel
theorem hk22 : ∀ c : Fin 2, (aMB hL22 c.val 1 2 2 = true ↔ pmt hM22 c.val 1 1 = 2) := by decide +kernel
theorem hm22 (c : Nat) (h : c < 2 ^ stC 2 (2 ^ 2)) : (aMB (stB 2 (2 ^ 2)) c (stC 2 (2 ^ 2)) 2 2 = true ↔ pmt (mtF 2 2) c (stC 2 (2 ^ 2)) (stC 2 (2 ^ 2)) = pI1 (2 ^ 2 - 1) 5) := by
  rw [hc22.1] at h ⊢
  rw [hc22.2, aMB_c (fun j hj => (hl22 j hj).1), pmt_c (f := mtF 2 2) (g := hM22) 1 (fun j hj => (hl22 j hj).2)]
  exact hk22 ⟨c, h⟩
def hL32 (i : Nat) : Nat := [3, 5, 6].getD i 0
def hM32 (i : Nat) : Nat := [2, 4, 128].getD i 0
theorem hc32 : stC 2 (2 ^ 3) = 3 ∧ pI1 (2 ^ 3 - 1) 5 = 134 := by decide +kernel
theorem hl32 : ∀ i, i < 3 → stB 2 (2 ^ 3) i = hL32 i ∧ pI1 (stB 2 (2 ^ 3) i) 5 = hM32 i := by decide +kernel
theorem hk32 : ∀ c : Fin 8, (aMB hL32 c.val 3 3 3 = true ↔ pmt hM32 c.val 3 3 = 134) := by decide +kernel
theorem hm32 (c : Nat) (h : c < 2 ^ stC 2 (2 ^ 3)) : (aMB (stB 2 (2 ^ 3)) c (stC 2 (2 ^ 3)) 3 3 = true ↔ pmt (mtF 2 3) c (stC 2 (2 ^ 3)) (stC 2 (2 ^ 3)) = pI1 (2 ^ 3 - 1) 5) := by
  rw [hc32.1] at h ⊢
  rw [hc32.2, aMB_c (fun j hj => (hl32 j hj).1), pmt_c (f := mtF 2 3) (g := hM32) 3 (fun j hj => (hl32 j hj).2)]
  exact hk32 ⟨c, h⟩
def hL33 (i : Nat) : Nat := [7].getD i 0
def hM33 (i : Nat) : Nat := [134].getD i 0
theorem hc33 : stC 3 (2 ^ 3) = 1 ∧ pI1 (2 ^ 3 - 1) 5 = 134 := by decide +kernel
theorem hl33 : ∀ i, i < 1 → stB 3 (2 ^ 3) i = hL33 i ∧ pI1 (stB 3 (2 ^ 3) i) 5 = hM33 i := by decide +kernel
theorem hk33 : ∀ c : Fin 2, (aMB hL33 c.val 1 3 3 = true ↔ pmt hM33 c.val 1 1 = 134) := by decide +kernel
theorem hm33 (c : Nat) (h : c < 2 ^ stC 3 (2 ^ 3)) : (aMB (stB 3 (2 ^ 3)) c (stC 3 (2 ^ 3)) 3 3 = true ↔ pmt (mtF 3 3) c (stC 3 (2 ^ 3)) (stC 3 (2 ^ 3)) = pI1 (2 ^ 3 - 1) 5) := by
  rw [hc33.1] at h ⊢
  rw [hc33.2, aMB_c (fun j hj => (hl33 j hj).1), pmt_c (f := mtF 3 3) (g := hM33) 1 (fun j hj => (hl33 j hj).2)]
  exact hk33 ⟨c, h⟩
def hL42 (i : Nat) : Nat := [3, 5, 6, 9, 10, 12].getD i 0
def hM42 (i : Nat) : Nat := [2, 4, 128, 8, 256, 8192].getD i 0
theorem hc42 : stC 2 (2 ^ 4) = 6 ∧ pI1 (2 ^ 4 - 1) 5 = 8590 := by decide +kernel
theorem hl42 : ∀ i, i < 6 → stB 2 (2 ^ 4) i = hL42 i ∧ pI1 (stB 2 (2 ^ 4) i) 5 = hM42 i := by decide +kernel
theorem hk42 : ∀ c : Fin 64, (aMB hL42 c.val 6 4 4 = true ↔ pmt hM42 c.val 6 6 = 8590) := by decide +kernel
theorem hm42 (c : Nat) (h : c < 2 ^ stC 2 (2 ^ 4)) : (aMB (stB 2 (2 ^ 4)) c (stC 2 (2 ^ 4)) 4 4 = true ↔ pmt (mtF 2 4) c (stC 2 (2 ^ 4)) (stC 2 (2 ^ 4)) = pI1 (2 ^ 4 - 1) 5) := by
  rw [hc42.1] at h ⊢
  rw [hc42.2, aMB_c (fun j hj => (hl42 j hj).1), pmt_c (f := mtF 2 4) (g := hM42) 6 (fun j hj => (hl42 j hj).2)]
  exact hk42 ⟨c, h⟩
def hL43 (i : Nat) : Nat := [7, 11, 13, 14].getD i 0
def hM43 (i : Nat) : Nat := [134, 266, 8204, 8576].getD i 0
theorem hc43 : stC 3 (2 ^ 4) = 4 ∧ pI1 (2 ^ 4 - 1) 5 = 8590 := by decide +kernel
theorem hl43 : ∀ i, i < 4 → stB 3 (2 ^ 4) i = hL43 i ∧ pI1 (stB 3 (2 ^ 4) i) 5 = hM43 i := by decide +kernel
theorem hk43 : ∀ c : Fin 16, (aMB hL43 c.val 4 4 4 = true ↔ pmt hM43 c.val 4 4 = 8590) := by decide +kernel
theorem hm43 (c : Nat) (h : c < 2 ^ stC 3 (2 ^ 4)) : (aMB (stB 3 (2 ^ 4)) c (stC 3 (2 ^ 4)) 4 4 = true ↔ pmt (mtF 3 4) c (stC 3 (2 ^ 4)) (stC 3 (2 ^ 4)) = pI1 (2 ^ 4 - 1) 5) := by
  rw [hc43.1] at h ⊢
  rw [hc43.2, aMB_c (fun j hj => (hl43 j hj).1), pmt_c (f := mtF 3 4) (g := hM43) 4 (fun j hj => (hl43 j hj).2)]
  exact hk43 ⟨c, h⟩
def hL44 (i : Nat) : Nat := [15].getD i 0
def hM44 (i : Nat) : Nat := [8590].getD i 0
theorem hc44 : stC 4 (2 ^ 4) = 1 ∧ pI1 (2 ^ 4 - 1) 5 = 8590 := by decide +kernel
theorem hl44 : ∀ i, i < 1 → stB 4 (2 ^ 4) i = hL44 i ∧ pI1 (stB 4 (2 ^ 4) i) 5 = hM44 i := by decide +kernel
theorem hk44 : ∀ c : Fin 2, (aMB hL44 c.val 1 4 4 = true ↔ pmt hM44 c.val 1 1 = 8590) := by decide +kernel
theorem hm44 (c : Nat) (h : c < 2 ^ stC 4 (2 ^ 4)) : (aMB (stB 4 (2 ^ 4)) c (stC 4 (2 ^ 4)) 4 4 = true ↔ pmt (mtF 4 4) c (stC 4 (2 ^ 4)) (stC 4 (2 ^ 4)) = pI1 (2 ^ 4 - 1) 5) := by
  rw [hc44.1] at h ⊢
  rw [hc44.2, aMB_c (fun j hj => (hl44 j hj).1), pmt_c (f := mtF 4 4) (g := hM44) 1 (fun j hj => (hl44 j hj).2)]
  exact hk44 ⟨c, h⟩
def hL52 (i : Nat) : Nat := [3, 5, 6, 9, 10, 12, 17, 18, 20, 24].getD i 0
def hM52 (i : Nat) : Nat := [2, 4, 128, 8, 256, 8192, 16, 512, 16384, 524288].getD i 0
theorem hc52 : stC 2 (2 ^ 5) = 10 ∧ pI1 (2 ^ 5 - 1) 5 = 549790 := by decide +kernel
theorem hl52 : ∀ i, i < 10 → stB 2 (2 ^ 5) i = hL52 i ∧ pI1 (stB 2 (2 ^ 5) i) 5 = hM52 i := by decide +kernel
theorem hk52 : ∀ c : Fin 1024, (aMB hL52 c.val 10 5 5 = true ↔ pmt hM52 c.val 10 10 = 549790) := by decide +kernel
theorem hm52 (c : Nat) (h : c < 2 ^ stC 2 (2 ^ 5)) : (aMB (stB 2 (2 ^ 5)) c (stC 2 (2 ^ 5)) 5 5 = true ↔ pmt (mtF 2 5) c (stC 2 (2 ^ 5)) (stC 2 (2 ^ 5)) = pI1 (2 ^ 5 - 1) 5) := by
  rw [hc52.1] at h ⊢
  rw [hc52.2, aMB_c (fun j hj => (hl52 j hj).1), pmt_c (f := mtF 2 5) (g := hM52) 10 (fun j hj => (hl52 j hj).2)]
  exact hk52 ⟨c, h⟩
def hL53 (i : Nat) : Nat := [7, 11, 13, 14, 19, 21, 22, 25, 26, 28].getD i 0
def hM53 (i : Nat) : Nat := [134, 266, 8204, 8576, 530, 16404, 17024, 524312, 525056, 548864].getD i 0
theorem hc53 : stC 3 (2 ^ 5) = 10 ∧ pI1 (2 ^ 5 - 1) 5 = 549790 := by decide +kernel
theorem hl53 : ∀ i, i < 10 → stB 3 (2 ^ 5) i = hL53 i ∧ pI1 (stB 3 (2 ^ 5) i) 5 = hM53 i := by decide +kernel
theorem hk53 : ∀ c : Fin 1024, (aMB hL53 c.val 10 5 5 = true ↔ pmt hM53 c.val 10 10 = 549790) := by decide +kernel
theorem hm53 (c : Nat) (h : c < 2 ^ stC 3 (2 ^ 5)) : (aMB (stB 3 (2 ^ 5)) c (stC 3 (2 ^ 5)) 5 5 = true ↔ pmt (mtF 3 5) c (stC 3 (2 ^ 5)) (stC 3 (2 ^ 5)) = pI1 (2 ^ 5 - 1) 5) := by
  rw [hc53.1] at h ⊢
  rw [hc53.2, aMB_c (fun j hj => (hl53 j hj).1), pmt_c (f := mtF 3 5) (g := hM53) 10 (fun j hj => (hl53 j hj).2)]
  exact hk53 ⟨c, h⟩
def hL54 (i : Nat) : Nat := [15, 23, 27, 29, 30].getD i 0
def hM54 (i : Nat) : Nat := [8590, 17046, 525082, 548892, 549760].getD i 0
theorem hc54 : stC 4 (2 ^ 5) = 5 ∧ pI1 (2 ^ 5 - 1) 5 = 549790 := by decide +kernel
theorem hl54 : ∀ i, i < 5 → stB 4 (2 ^ 5) i = hL54 i ∧ pI1 (stB 4 (2 ^ 5) i) 5 = hM54 i := by decide +kernel
theorem hk54 : ∀ c : Fin 32, (aMB hL54 c.val 5 5 5 = true ↔ pmt hM54 c.val 5 5 = 549790) := by decide +kernel
theorem hm54 (c : Nat) (h : c < 2 ^ stC 4 (2 ^ 5)) : (aMB (stB 4 (2 ^ 5)) c (stC 4 (2 ^ 5)) 5 5 = true ↔ pmt (mtF 4 5) c (stC 4 (2 ^ 5)) (stC 4 (2 ^ 5)) = pI1 (2 ^ 5 - 1) 5) := by
  rw [hc54.1] at h ⊢
  rw [hc54.2, aMB_c (fun j hj => (hl54 j hj).1), pmt_c (f := mtF 4 5) (g := hM54) 5 (fun j hj => (hl54 j hj).2)]
  exact hk54 ⟨c, h⟩
theorem met_eq (n z c : Nat) (hn : n ≤ 5) (hz : 2 ≤ z) (hz4 : z ≤ 4) (hzn : z ≤ n) (h : c < 2 ^ stC z (2 ^ n)) : (aMB (stB z (2 ^ n)) c (stC z (2 ^ n)) n n = true ↔ pmt (mtF z n) c (stC z (2 ^ n)) (stC z (2 ^ n)) = pI1 (2 ^ n - 1) 5) := by
  have e : (n = 2 ∧ z = 2) ∨ (n = 3 ∧ z = 2) ∨ (n = 3 ∧ z = 3) ∨ (n = 4 ∧ z = 2) ∨ (n = 4 ∧ z = 3) ∨ (n = 4 ∧ z = 4) ∨ (n = 5 ∧ z = 2) ∨ (n = 5 ∧ z = 3) ∨ (n = 5 ∧ z = 4) := by omega
  rcases e with ⟨rfl, rfl⟩ | ⟨rfl, rfl⟩ | ⟨rfl, rfl⟩ | ⟨rfl, rfl⟩ | ⟨rfl, rfl⟩ | ⟨rfl, rfl⟩ | ⟨rfl, rfl⟩ | ⟨rfl, rfl⟩ | ⟨rfl, rfl⟩
  · exact hm22 c h
  · exact hm32 c h
  · exact hm33 c h
  · exact hm42 c h
  · exact hm43 c h
  · exact hm44 c h
  · exact hm52 c h
  · exact hm53 c h
  · exact hm54 c h
theorem ls_pop : ∀ all, all < 11 → ∀ c, c < 2 ^ all → lsC c all all = popc c := by decide +kernel
