/-! tools: numerals, loops -/
theorem zne {k : Nat} (h : k < 2 ^ 31) : (nI k = (-1 : Int32)) = False := eq_false (nI_ne1 h)
theorem zb0 (b : Bool) : (b2i b = (0 : Int32)) = (b = false) := propext (b2i_0 b)
theorem zb1 (b : Bool) : (b2i b = (1 : Int32)) = (b = true) := propext (b2i_1 b)
theorem zl0 {i : Nat} (h : i < 2 ^ 31) : ((0 : Int32) ≤ nI i) = (0 ≤ i) := leI (a := 0) (by decide) h
theorem zg0 {i : Nat} (h : i < 2 ^ 31) : (nI i ≤ (0 : Int32)) = (i ≤ 0) := leI (b := 0) h (by decide)
theorem zt0 {i : Nat} (h : i < 2 ^ 31) : ((0 : Int32) < nI i) = (0 < i) := ltI (a := 0) (by decide) h
theorem zu0 {i : Nat} (h : i < 2 ^ 31) : (nI i < (0 : Int32)) = (i < 0) := ltI (b := 0) h (by decide)
theorem ze0 {i : Nat} (h : i < 2 ^ 31) : (nI i = (0 : Int32)) = (i = 0) := eqI (b := 0) h (by decide)
theorem zm0 (i : Nat) : (0 : Int32) * nI i = nI (0 * i) := pk_mul 0 i
theorem zr0 (i : Nat) : nI i * (0 : Int32) = nI (i * 0) := pk_mul i 0
theorem zs0 {i : Nat} (h : 0 ≤ i) : nI i - (0 : Int32) = nI (i - 0) := nI_sub (b := 0) h
theorem zl1 {i : Nat} (h : i < 2 ^ 31) : ((1 : Int32) ≤ nI i) = (1 ≤ i) := leI (a := 1) (by decide) h
theorem zg1 {i : Nat} (h : i < 2 ^ 31) : (nI i ≤ (1 : Int32)) = (i ≤ 1) := leI (b := 1) h (by decide)
theorem zt1 {i : Nat} (h : i < 2 ^ 31) : ((1 : Int32) < nI i) = (1 < i) := ltI (a := 1) (by decide) h
theorem zu1 {i : Nat} (h : i < 2 ^ 31) : (nI i < (1 : Int32)) = (i < 1) := ltI (b := 1) h (by decide)
theorem ze1 {i : Nat} (h : i < 2 ^ 31) : (nI i = (1 : Int32)) = (i = 1) := eqI (b := 1) h (by decide)
theorem zm1 (i : Nat) : (1 : Int32) * nI i = nI (1 * i) := pk_mul 1 i
theorem zr1 (i : Nat) : nI i * (1 : Int32) = nI (i * 1) := pk_mul i 1
theorem zs1 {i : Nat} (h : 1 ≤ i) : nI i - (1 : Int32) = nI (i - 1) := nI_sub (b := 1) h
theorem zl2 {i : Nat} (h : i < 2 ^ 31) : ((2 : Int32) ≤ nI i) = (2 ≤ i) := leI (a := 2) (by decide) h
theorem zg2 {i : Nat} (h : i < 2 ^ 31) : (nI i ≤ (2 : Int32)) = (i ≤ 2) := leI (b := 2) h (by decide)
theorem zt2 {i : Nat} (h : i < 2 ^ 31) : ((2 : Int32) < nI i) = (2 < i) := ltI (a := 2) (by decide) h
theorem zu2 {i : Nat} (h : i < 2 ^ 31) : (nI i < (2 : Int32)) = (i < 2) := ltI (b := 2) h (by decide)
theorem ze2 {i : Nat} (h : i < 2 ^ 31) : (nI i = (2 : Int32)) = (i = 2) := eqI (b := 2) h (by decide)
theorem zm2 (i : Nat) : (2 : Int32) * nI i = nI (2 * i) := pk_mul 2 i
theorem zr2 (i : Nat) : nI i * (2 : Int32) = nI (i * 2) := pk_mul i 2
theorem za2 (i : Nat) : nI i + (2 : Int32) = nI (i + 2) := nI_add i 2
theorem zs2 {i : Nat} (h : 2 ≤ i) : nI i - (2 : Int32) = nI (i - 2) := nI_sub (b := 2) h
theorem zl3 {i : Nat} (h : i < 2 ^ 31) : ((3 : Int32) ≤ nI i) = (3 ≤ i) := leI (a := 3) (by decide) h
theorem zg3 {i : Nat} (h : i < 2 ^ 31) : (nI i ≤ (3 : Int32)) = (i ≤ 3) := leI (b := 3) h (by decide)
theorem zt3 {i : Nat} (h : i < 2 ^ 31) : ((3 : Int32) < nI i) = (3 < i) := ltI (a := 3) (by decide) h
theorem zu3 {i : Nat} (h : i < 2 ^ 31) : (nI i < (3 : Int32)) = (i < 3) := ltI (b := 3) h (by decide)
theorem ze3 {i : Nat} (h : i < 2 ^ 31) : (nI i = (3 : Int32)) = (i = 3) := eqI (b := 3) h (by decide)
theorem zm3 (i : Nat) : (3 : Int32) * nI i = nI (3 * i) := pk_mul 3 i
theorem zr3 (i : Nat) : nI i * (3 : Int32) = nI (i * 3) := pk_mul i 3
theorem za3 (i : Nat) : nI i + (3 : Int32) = nI (i + 3) := nI_add i 3
theorem zs3 {i : Nat} (h : 3 ≤ i) : nI i - (3 : Int32) = nI (i - 3) := nI_sub (b := 3) h
theorem zl4 {i : Nat} (h : i < 2 ^ 31) : ((4 : Int32) ≤ nI i) = (4 ≤ i) := leI (a := 4) (by decide) h
theorem zg4 {i : Nat} (h : i < 2 ^ 31) : (nI i ≤ (4 : Int32)) = (i ≤ 4) := leI (b := 4) h (by decide)
theorem zt4 {i : Nat} (h : i < 2 ^ 31) : ((4 : Int32) < nI i) = (4 < i) := ltI (a := 4) (by decide) h
theorem zu4 {i : Nat} (h : i < 2 ^ 31) : (nI i < (4 : Int32)) = (i < 4) := ltI (b := 4) h (by decide)
theorem ze4 {i : Nat} (h : i < 2 ^ 31) : (nI i = (4 : Int32)) = (i = 4) := eqI (b := 4) h (by decide)
theorem zm4 (i : Nat) : (4 : Int32) * nI i = nI (4 * i) := pk_mul 4 i
theorem zr4 (i : Nat) : nI i * (4 : Int32) = nI (i * 4) := pk_mul i 4
theorem za4 (i : Nat) : nI i + (4 : Int32) = nI (i + 4) := nI_add i 4
theorem zs4 {i : Nat} (h : 4 ≤ i) : nI i - (4 : Int32) = nI (i - 4) := nI_sub (b := 4) h
theorem zl5 {i : Nat} (h : i < 2 ^ 31) : ((5 : Int32) ≤ nI i) = (5 ≤ i) := leI (a := 5) (by decide) h
theorem zg5 {i : Nat} (h : i < 2 ^ 31) : (nI i ≤ (5 : Int32)) = (i ≤ 5) := leI (b := 5) h (by decide)
theorem zt5 {i : Nat} (h : i < 2 ^ 31) : ((5 : Int32) < nI i) = (5 < i) := ltI (a := 5) (by decide) h
theorem zu5 {i : Nat} (h : i < 2 ^ 31) : (nI i < (5 : Int32)) = (i < 5) := ltI (b := 5) h (by decide)
theorem ze5 {i : Nat} (h : i < 2 ^ 31) : (nI i = (5 : Int32)) = (i = 5) := eqI (b := 5) h (by decide)
theorem zm5 (i : Nat) : (5 : Int32) * nI i = nI (5 * i) := pk_mul 5 i
theorem zr5 (i : Nat) : nI i * (5 : Int32) = nI (i * 5) := pk_mul i 5
theorem za5 (i : Nat) : nI i + (5 : Int32) = nI (i + 5) := nI_add i 5
theorem zs5 {i : Nat} (h : 5 ≤ i) : nI i - (5 : Int32) = nI (i - 5) := nI_sub (b := 5) h
theorem zl7 {i : Nat} (h : i < 2 ^ 31) : ((7 : Int32) ≤ nI i) = (7 ≤ i) := leI (a := 7) (by decide) h
theorem zg7 {i : Nat} (h : i < 2 ^ 31) : (nI i ≤ (7 : Int32)) = (i ≤ 7) := leI (b := 7) h (by decide)
theorem zt7 {i : Nat} (h : i < 2 ^ 31) : ((7 : Int32) < nI i) = (7 < i) := ltI (a := 7) (by decide) h
theorem zu7 {i : Nat} (h : i < 2 ^ 31) : (nI i < (7 : Int32)) = (i < 7) := ltI (b := 7) h (by decide)
theorem ze7 {i : Nat} (h : i < 2 ^ 31) : (nI i = (7 : Int32)) = (i = 7) := eqI (b := 7) h (by decide)
theorem zm7 (i : Nat) : (7 : Int32) * nI i = nI (7 * i) := pk_mul 7 i
theorem zr7 (i : Nat) : nI i * (7 : Int32) = nI (i * 7) := pk_mul i 7
theorem za7 (i : Nat) : nI i + (7 : Int32) = nI (i + 7) := nI_add i 7
theorem zs7 {i : Nat} (h : 7 ≤ i) : nI i - (7 : Int32) = nI (i - 7) := nI_sub (b := 7) h
theorem zl8 {i : Nat} (h : i < 2 ^ 31) : ((8 : Int32) ≤ nI i) = (8 ≤ i) := leI (a := 8) (by decide) h
theorem zg8 {i : Nat} (h : i < 2 ^ 31) : (nI i ≤ (8 : Int32)) = (i ≤ 8) := leI (b := 8) h (by decide)
theorem zt8 {i : Nat} (h : i < 2 ^ 31) : ((8 : Int32) < nI i) = (8 < i) := ltI (a := 8) (by decide) h
theorem zu8 {i : Nat} (h : i < 2 ^ 31) : (nI i < (8 : Int32)) = (i < 8) := ltI (b := 8) h (by decide)
theorem ze8 {i : Nat} (h : i < 2 ^ 31) : (nI i = (8 : Int32)) = (i = 8) := eqI (b := 8) h (by decide)
theorem zm8 (i : Nat) : (8 : Int32) * nI i = nI (8 * i) := pk_mul 8 i
theorem zr8 (i : Nat) : nI i * (8 : Int32) = nI (i * 8) := pk_mul i 8
theorem za8 (i : Nat) : nI i + (8 : Int32) = nI (i + 8) := nI_add i 8
theorem zs8 {i : Nat} (h : 8 ≤ i) : nI i - (8 : Int32) = nI (i - 8) := nI_sub (b := 8) h
theorem zl10 {i : Nat} (h : i < 2 ^ 31) : ((10 : Int32) ≤ nI i) = (10 ≤ i) := leI (a := 10) (by decide) h
theorem zg10 {i : Nat} (h : i < 2 ^ 31) : (nI i ≤ (10 : Int32)) = (i ≤ 10) := leI (b := 10) h (by decide)
theorem zt10 {i : Nat} (h : i < 2 ^ 31) : ((10 : Int32) < nI i) = (10 < i) := ltI (a := 10) (by decide) h
theorem zu10 {i : Nat} (h : i < 2 ^ 31) : (nI i < (10 : Int32)) = (i < 10) := ltI (b := 10) h (by decide)
theorem ze10 {i : Nat} (h : i < 2 ^ 31) : (nI i = (10 : Int32)) = (i = 10) := eqI (b := 10) h (by decide)
theorem zm10 (i : Nat) : (10 : Int32) * nI i = nI (10 * i) := pk_mul 10 i
theorem zr10 (i : Nat) : nI i * (10 : Int32) = nI (i * 10) := pk_mul i 10
theorem za10 (i : Nat) : nI i + (10 : Int32) = nI (i + 10) := nI_add i 10
theorem zs10 {i : Nat} (h : 10 ≤ i) : nI i - (10 : Int32) = nI (i - 10) := nI_sub (b := 10) h
theorem zl16 {i : Nat} (h : i < 2 ^ 31) : ((16 : Int32) ≤ nI i) = (16 ≤ i) := leI (a := 16) (by decide) h
theorem zg16 {i : Nat} (h : i < 2 ^ 31) : (nI i ≤ (16 : Int32)) = (i ≤ 16) := leI (b := 16) h (by decide)
theorem zt16 {i : Nat} (h : i < 2 ^ 31) : ((16 : Int32) < nI i) = (16 < i) := ltI (a := 16) (by decide) h
theorem zu16 {i : Nat} (h : i < 2 ^ 31) : (nI i < (16 : Int32)) = (i < 16) := ltI (b := 16) h (by decide)
theorem ze16 {i : Nat} (h : i < 2 ^ 31) : (nI i = (16 : Int32)) = (i = 16) := eqI (b := 16) h (by decide)
theorem zm16 (i : Nat) : (16 : Int32) * nI i = nI (16 * i) := pk_mul 16 i
theorem zr16 (i : Nat) : nI i * (16 : Int32) = nI (i * 16) := pk_mul i 16
theorem za16 (i : Nat) : nI i + (16 : Int32) = nI (i + 16) := nI_add i 16
theorem zs16 {i : Nat} (h : 16 ≤ i) : nI i - (16 : Int32) = nI (i - 16) := nI_sub (b := 16) h
theorem zl17 {i : Nat} (h : i < 2 ^ 31) : ((17 : Int32) ≤ nI i) = (17 ≤ i) := leI (a := 17) (by decide) h
theorem zg17 {i : Nat} (h : i < 2 ^ 31) : (nI i ≤ (17 : Int32)) = (i ≤ 17) := leI (b := 17) h (by decide)
theorem zt17 {i : Nat} (h : i < 2 ^ 31) : ((17 : Int32) < nI i) = (17 < i) := ltI (a := 17) (by decide) h
theorem zu17 {i : Nat} (h : i < 2 ^ 31) : (nI i < (17 : Int32)) = (i < 17) := ltI (b := 17) h (by decide)
theorem ze17 {i : Nat} (h : i < 2 ^ 31) : (nI i = (17 : Int32)) = (i = 17) := eqI (b := 17) h (by decide)
theorem zm17 (i : Nat) : (17 : Int32) * nI i = nI (17 * i) := pk_mul 17 i
theorem zr17 (i : Nat) : nI i * (17 : Int32) = nI (i * 17) := pk_mul i 17
theorem za17 (i : Nat) : nI i + (17 : Int32) = nI (i + 17) := nI_add i 17
theorem zs17 {i : Nat} (h : 17 ≤ i) : nI i - (17 : Int32) = nI (i - 17) := nI_sub (b := 17) h
theorem zl23 {i : Nat} (h : i < 2 ^ 31) : ((23 : Int32) ≤ nI i) = (23 ≤ i) := leI (a := 23) (by decide) h
theorem zg23 {i : Nat} (h : i < 2 ^ 31) : (nI i ≤ (23 : Int32)) = (i ≤ 23) := leI (b := 23) h (by decide)
theorem zt23 {i : Nat} (h : i < 2 ^ 31) : ((23 : Int32) < nI i) = (23 < i) := ltI (a := 23) (by decide) h
theorem zu23 {i : Nat} (h : i < 2 ^ 31) : (nI i < (23 : Int32)) = (i < 23) := ltI (b := 23) h (by decide)
theorem ze23 {i : Nat} (h : i < 2 ^ 31) : (nI i = (23 : Int32)) = (i = 23) := eqI (b := 23) h (by decide)
theorem zm23 (i : Nat) : (23 : Int32) * nI i = nI (23 * i) := pk_mul 23 i
theorem zr23 (i : Nat) : nI i * (23 : Int32) = nI (i * 23) := pk_mul i 23
theorem za23 (i : Nat) : nI i + (23 : Int32) = nI (i + 23) := nI_add i 23
theorem zs23 {i : Nat} (h : 23 ≤ i) : nI i - (23 : Int32) = nI (i - 23) := nI_sub (b := 23) h
theorem zl32 {i : Nat} (h : i < 2 ^ 31) : ((32 : Int32) ≤ nI i) = (32 ≤ i) := leI (a := 32) (by decide) h
theorem zg32 {i : Nat} (h : i < 2 ^ 31) : (nI i ≤ (32 : Int32)) = (i ≤ 32) := leI (b := 32) h (by decide)
theorem zt32 {i : Nat} (h : i < 2 ^ 31) : ((32 : Int32) < nI i) = (32 < i) := ltI (a := 32) (by decide) h
theorem zu32 {i : Nat} (h : i < 2 ^ 31) : (nI i < (32 : Int32)) = (i < 32) := ltI (b := 32) h (by decide)
theorem ze32 {i : Nat} (h : i < 2 ^ 31) : (nI i = (32 : Int32)) = (i = 32) := eqI (b := 32) h (by decide)
theorem zm32 (i : Nat) : (32 : Int32) * nI i = nI (32 * i) := pk_mul 32 i
theorem zr32 (i : Nat) : nI i * (32 : Int32) = nI (i * 32) := pk_mul i 32
theorem za32 (i : Nat) : nI i + (32 : Int32) = nI (i + 32) := nI_add i 32
theorem zs32 {i : Nat} (h : 32 ≤ i) : nI i - (32 : Int32) = nI (i - 32) := nI_sub (b := 32) h
theorem zl39 {i : Nat} (h : i < 2 ^ 31) : ((39 : Int32) ≤ nI i) = (39 ≤ i) := leI (a := 39) (by decide) h
theorem zg39 {i : Nat} (h : i < 2 ^ 31) : (nI i ≤ (39 : Int32)) = (i ≤ 39) := leI (b := 39) h (by decide)
theorem zt39 {i : Nat} (h : i < 2 ^ 31) : ((39 : Int32) < nI i) = (39 < i) := ltI (a := 39) (by decide) h
theorem zu39 {i : Nat} (h : i < 2 ^ 31) : (nI i < (39 : Int32)) = (i < 39) := ltI (b := 39) h (by decide)
theorem ze39 {i : Nat} (h : i < 2 ^ 31) : (nI i = (39 : Int32)) = (i = 39) := eqI (b := 39) h (by decide)
theorem zm39 (i : Nat) : (39 : Int32) * nI i = nI (39 * i) := pk_mul 39 i
theorem zr39 (i : Nat) : nI i * (39 : Int32) = nI (i * 39) := pk_mul i 39
theorem za39 (i : Nat) : nI i + (39 : Int32) = nI (i + 39) := nI_add i 39
theorem zs39 {i : Nat} (h : 39 ≤ i) : nI i - (39 : Int32) = nI (i - 39) := nI_sub (b := 39) h
theorem zl40 {i : Nat} (h : i < 2 ^ 31) : ((40 : Int32) ≤ nI i) = (40 ≤ i) := leI (a := 40) (by decide) h
theorem zg40 {i : Nat} (h : i < 2 ^ 31) : (nI i ≤ (40 : Int32)) = (i ≤ 40) := leI (b := 40) h (by decide)
theorem zt40 {i : Nat} (h : i < 2 ^ 31) : ((40 : Int32) < nI i) = (40 < i) := ltI (a := 40) (by decide) h
theorem zu40 {i : Nat} (h : i < 2 ^ 31) : (nI i < (40 : Int32)) = (i < 40) := ltI (b := 40) h (by decide)
theorem ze40 {i : Nat} (h : i < 2 ^ 31) : (nI i = (40 : Int32)) = (i = 40) := eqI (b := 40) h (by decide)
theorem zm40 (i : Nat) : (40 : Int32) * nI i = nI (40 * i) := pk_mul 40 i
theorem zr40 (i : Nat) : nI i * (40 : Int32) = nI (i * 40) := pk_mul i 40
theorem za40 (i : Nat) : nI i + (40 : Int32) = nI (i + 40) := nI_add i 40
theorem zs40 {i : Nat} (h : 40 ≤ i) : nI i - (40 : Int32) = nI (i - 40) := nI_sub (b := 40) h
theorem zl60 {i : Nat} (h : i < 2 ^ 31) : ((60 : Int32) ≤ nI i) = (60 ≤ i) := leI (a := 60) (by decide) h
theorem zg60 {i : Nat} (h : i < 2 ^ 31) : (nI i ≤ (60 : Int32)) = (i ≤ 60) := leI (b := 60) h (by decide)
theorem zt60 {i : Nat} (h : i < 2 ^ 31) : ((60 : Int32) < nI i) = (60 < i) := ltI (a := 60) (by decide) h
theorem zu60 {i : Nat} (h : i < 2 ^ 31) : (nI i < (60 : Int32)) = (i < 60) := ltI (b := 60) h (by decide)
theorem ze60 {i : Nat} (h : i < 2 ^ 31) : (nI i = (60 : Int32)) = (i = 60) := eqI (b := 60) h (by decide)
theorem zm60 (i : Nat) : (60 : Int32) * nI i = nI (60 * i) := pk_mul 60 i
theorem zr60 (i : Nat) : nI i * (60 : Int32) = nI (i * 60) := pk_mul i 60
theorem za60 (i : Nat) : nI i + (60 : Int32) = nI (i + 60) := nI_add i 60
theorem zs60 {i : Nat} (h : 60 ≤ i) : nI i - (60 : Int32) = nI (i - 60) := nI_sub (b := 60) h
theorem zl63 {i : Nat} (h : i < 2 ^ 31) : ((63 : Int32) ≤ nI i) = (63 ≤ i) := leI (a := 63) (by decide) h
theorem zg63 {i : Nat} (h : i < 2 ^ 31) : (nI i ≤ (63 : Int32)) = (i ≤ 63) := leI (b := 63) h (by decide)
theorem zt63 {i : Nat} (h : i < 2 ^ 31) : ((63 : Int32) < nI i) = (63 < i) := ltI (a := 63) (by decide) h
theorem zu63 {i : Nat} (h : i < 2 ^ 31) : (nI i < (63 : Int32)) = (i < 63) := ltI (b := 63) h (by decide)
theorem ze63 {i : Nat} (h : i < 2 ^ 31) : (nI i = (63 : Int32)) = (i = 63) := eqI (b := 63) h (by decide)
theorem zm63 (i : Nat) : (63 : Int32) * nI i = nI (63 * i) := pk_mul 63 i
theorem zr63 (i : Nat) : nI i * (63 : Int32) = nI (i * 63) := pk_mul i 63
theorem za63 (i : Nat) : nI i + (63 : Int32) = nI (i + 63) := nI_add i 63
theorem zs63 {i : Nat} (h : 63 ≤ i) : nI i - (63 : Int32) = nI (i - 63) := nI_sub (b := 63) h
theorem zl64 {i : Nat} (h : i < 2 ^ 31) : ((64 : Int32) ≤ nI i) = (64 ≤ i) := leI (a := 64) (by decide) h
theorem zg64 {i : Nat} (h : i < 2 ^ 31) : (nI i ≤ (64 : Int32)) = (i ≤ 64) := leI (b := 64) h (by decide)
theorem zt64 {i : Nat} (h : i < 2 ^ 31) : ((64 : Int32) < nI i) = (64 < i) := ltI (a := 64) (by decide) h
theorem zu64 {i : Nat} (h : i < 2 ^ 31) : (nI i < (64 : Int32)) = (i < 64) := ltI (b := 64) h (by decide)
theorem ze64 {i : Nat} (h : i < 2 ^ 31) : (nI i = (64 : Int32)) = (i = 64) := eqI (b := 64) h (by decide)
theorem zm64 (i : Nat) : (64 : Int32) * nI i = nI (64 * i) := pk_mul 64 i
theorem zr64 (i : Nat) : nI i * (64 : Int32) = nI (i * 64) := pk_mul i 64
theorem za64 (i : Nat) : nI i + (64 : Int32) = nI (i + 64) := nI_add i 64
theorem zs64 {i : Nat} (h : 64 ≤ i) : nI i - (64 : Int32) = nI (i - 64) := nI_sub (b := 64) h
theorem zl99 {i : Nat} (h : i < 2 ^ 31) : ((99 : Int32) ≤ nI i) = (99 ≤ i) := leI (a := 99) (by decide) h
theorem zg99 {i : Nat} (h : i < 2 ^ 31) : (nI i ≤ (99 : Int32)) = (i ≤ 99) := leI (b := 99) h (by decide)
theorem zt99 {i : Nat} (h : i < 2 ^ 31) : ((99 : Int32) < nI i) = (99 < i) := ltI (a := 99) (by decide) h
theorem zu99 {i : Nat} (h : i < 2 ^ 31) : (nI i < (99 : Int32)) = (i < 99) := ltI (b := 99) h (by decide)
theorem ze99 {i : Nat} (h : i < 2 ^ 31) : (nI i = (99 : Int32)) = (i = 99) := eqI (b := 99) h (by decide)
theorem zm99 (i : Nat) : (99 : Int32) * nI i = nI (99 * i) := pk_mul 99 i
theorem zr99 (i : Nat) : nI i * (99 : Int32) = nI (i * 99) := pk_mul i 99
theorem za99 (i : Nat) : nI i + (99 : Int32) = nI (i + 99) := nI_add i 99
theorem zs99 {i : Nat} (h : 99 ≤ i) : nI i - (99 : Int32) = nI (i - 99) := nI_sub (b := 99) h
theorem lpQ {σ β : Type} (f : Nat → σ → Option β) (P : Nat → σ → Prop) (Q : Option β → Prop) (m : Nat) (hs : ∀ n i s, i < m → P i s → (∃ s', f (n + 1) s = f n s' ∧ P (i + 1) s') ∨ Q (f (n + 1) s)) (he : ∀ n s, P m s → Q (f (n + 1) s)) : ∀ (d n i : Nat) (s : σ), i + d = m → d < n → P i s → Q (f n s) := by
  intro d
  induction d with
  | zero =>
    intro n i s h hn p
    obtain ⟨n', rfl⟩ : ∃ n', n = n' + 1 := ⟨n - 1, by omega⟩
    have : i = m := by omega
    subst this
    exact he n' s p
  | succ d ih =>
    intro n i s h hn p
    obtain ⟨n', rfl⟩ : ∃ n', n = n' + 1 := ⟨n - 1, by omega⟩
    rcases hs n' i s (by omega) p with ⟨s', h1, h2⟩ | h1
    · rw [h1]; exact ih n' (i + 1) s' (by omega) (by omega) h2
    · exact h1
theorem lpF {σ β : Type} (f : Nat → σ → Option β) (P : Nat → σ → Prop) (Q : Option β → Prop) (m : Nat) (hm : m < 100000) (hs : ∀ n i s, i < m → P i s → (∃ s', f (n + 1) s = f n s' ∧ P (i + 1) s') ∨ Q (f (n + 1) s)) (he : ∀ n s, P m s → Q (f (n + 1) s)) (s : σ) (h0 : P 0 s) : Q (f FU s) := lpQ f P Q m hs he m FU 0 s (by omega) (FU_lt hm) h0
def evB (p : Nat → Bool) : Nat → Bool
  | 0 => false
  | n + 1 => evB p n || p n
theorem evB_s (p : Nat → Bool) (n : Nat) : evB p (n + 1) = (evB p n || p n) := rfl
theorem evB_iff (p : Nat → Bool) (n : Nat) : evB p n = true ↔ ∃ j, j < n ∧ p j = true := by
  induction n with
  | zero => simp [evB]
  | succ n ih =>
    rw [evB_s, Bool.or_eq_true, ih]
    constructor
    · rintro (⟨j, h1, h2⟩ | h)
      · exact ⟨j, by omega, h2⟩
      · exact ⟨n, by omega, h⟩
    · rintro ⟨j, h1, h2⟩
      by_cases e : j = n
      · subst e; exact Or.inr h2
      · exact Or.inl ⟨j, by omega, h2⟩
theorem evB_congr {p q : Nat → Bool} {n : Nat} (h : ∀ j, j < n → p j = q j) : evB p n = evB q n := by
  induction n with
  | zero => rfl
  | succ n ih => rw [evB_s, evB_s, ih (fun j hj => h j (by omega)), h n (by omega)]
/-- only the cells from a to b have changed -/
def FI (a b : Nat) (m m' : Mem) : Prop := ∀ k, k < a ∨ b ≤ k → m' k = m k
theorem FI.refl (a b : Nat) (m : Mem) : FI a b m m := fun _ _ => rfl
theorem FI.trans {a b : Nat} {x y z : Mem} (h : FI a b x y) (g : FI a b y z) : FI a b x z := fun k hk => (g k hk).trans (h k hk)
theorem FI.mono {a b c d : Nat} {x y : Mem} (h : FI a b x y) (h1 : c ≤ a) (h2 : b ≤ d) : FI c d x y := fun k hk => h k (by omega)
theorem FI.set {a b : Nat} {x y : Mem} (h : FI a b x y) (k i : Nat) (v : Int32) (h1 : a ≤ k ∧ k < b) : FI a b x (mset y k i v) := fun j hj => (mset_n (by omega)).trans (h j hj)
theorem CW.fi {M M' : Mem} {a b v nw : Nat} {st ht : Nat → Nat} (C : CW M v nw st ht) (f : FI a b M M') (s : v + 4 < a ∨ b ≤ v) : CW M' v nw st ht := by
  unfold CW
  rw [f v (by omega), f (v + 1) (by omega), f (v + 2) (by omega)]
  exact C
theorem CK.fi {M M' : Mem} {a b v nw w : Nat} {ht : Nat → Nat} (C : CK M v nw ht w) (f : FI a b M M') (s : v + 4 < a ∨ b ≤ v) : CK M' v nw ht w := by
  unfold CK
  rw [f v (by omega), f (v + 3) (by omega), f (v + 4) (by omega)]
  exact C
theorem CH.fi {M M' : Mem} {a b u : Nat} {H : KH} (C : CH M u H) (f : FI a b M M') (s : u + 3 < a ∨ b ≤ u) : CH M' u H := by
  unfold CH
  rw [f (u + 1) (by omega), f (u + 2) (by omega), f (u + 3) (by omega)]
  exact C
theorem beqc (a b : Nat) : (a == b) = (b == a) := by rw [Bool.eq_iff_iff, beq_iff_eq, beq_iff_eq]; exact ⟨Eq.symm, Eq.symm⟩
theorem beqf {a b : Nat} (h : ¬ a = b) : (a == b) = false := by simpa using h
