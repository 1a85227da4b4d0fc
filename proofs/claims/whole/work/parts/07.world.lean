def xpLL : List Nat := [83, 110, 137, 164, 191, 218, 245]
def xpL (g : xG) (o : Nat) : Prop := o ∈ xpLL ∧ ∀ i, i < 27 → o + i ∈ xKs g
def xpTL : List Nat := [34, 40]
def xpT (g : xG) (o : Nat) : Prop := o ∈ xpTL ∧ ∀ i, i < 6 → o + i ∈ xKs g
def xpNL : List Nat := [58, 63, 68, 73, 78]
def xpN (g : xG) (o : Nat) : Prop := o ∈ xpNL ∧ ∀ i, i < 5 → o + i ∈ xKs g
def xpYL : List Nat := [50, 52, 54, 56]
def xpY (g : xG) (o : Nat) : Prop := o ∈ xpYL ∧ ∀ i, i < 2 → o + i ∈ xKs g
def xpFL : List Nat := [46, 48]
def xpF (g : xG) (o : Nat) : Prop := o ∈ xpFL ∧ ∀ i, i < 2 → o + i ∈ xKs g
def xpX (g : xG) : Prop := ∀ k, k < 272 → k ∈ xKs g
def xpM (g : xG) : Prop := ∀ k, 272 ≤ k → k < 290 → k ∈ xKs g
theorem x_okl {g : xG} {k t n : Nat} (h : x_ok g k (t, n)) : x_ok g k (t, x_len k) := ⟨h.1, by rw [x_len, h.2]⟩
theorem xoL_0 {g : xG} {o : Nat} (h : xpL g o) : x_ok g o (11, 15) := ⟨h.2 0 (by decide), (by decide +kernel : ∀ o ∈ xpLL, x_kind o = (11, 15)) o h.1⟩
theorem xoL_1 {g : xG} {o : Nat} (h : xpL g o) : x_ok g (o + 1) (17, 9) := ⟨h.2 1 (by decide), (by decide +kernel : ∀ o ∈ xpLL, x_kind (o + 1) = (17, 9)) o h.1⟩
theorem xoL_2 {g : xG} {o : Nat} (h : xpL g o) : x_ok g (o + 2) (1, 7) := ⟨h.2 2 (by decide), (by decide +kernel : ∀ o ∈ xpLL, x_kind (o + 2) = (1, 7)) o h.1⟩
theorem xoL_3 {g : xG} {o : Nat} (h : xpL g o) : x_ok g (o + 3) (0, 7) := ⟨h.2 3 (by decide), (by decide +kernel : ∀ o ∈ xpLL, x_kind (o + 3) = (0, 7)) o h.1⟩
theorem xoL_4 {g : xG} {o : Nat} (h : xpL g o) : x_ok g (o + 4) (0, 7) := ⟨h.2 4 (by decide), (by decide +kernel : ∀ o ∈ xpLL, x_kind (o + 4) = (0, 7)) o h.1⟩
theorem xoL_5 {g : xG} {o : Nat} (h : xpL g o) : x_ok g (o + 5) (0, 7) := ⟨h.2 5 (by decide), (by decide +kernel : ∀ o ∈ xpLL, x_kind (o + 5) = (0, 7)) o h.1⟩
theorem xoL_6 {g : xG} {o : Nat} (h : xpL g o) : x_ok g (o + 6) (0, 7) := ⟨h.2 6 (by decide), (by decide +kernel : ∀ o ∈ xpLL, x_kind (o + 6) = (0, 7)) o h.1⟩
theorem xoL_7 {g : xG} {o : Nat} (h : xpL g o) : x_ok g (o + 7) (0, 7) := ⟨h.2 7 (by decide), (by decide +kernel : ∀ o ∈ xpLL, x_kind (o + 7) = (0, 7)) o h.1⟩
theorem xoL_8 {g : xG} {o : Nat} (h : xpL g o) : x_ok g (o + 8) (0, 7) := ⟨h.2 8 (by decide), (by decide +kernel : ∀ o ∈ xpLL, x_kind (o + 8) = (0, 7)) o h.1⟩
theorem xoL_9 {g : xG} {o : Nat} (h : xpL g o) : x_ok g (o + 9) (10, 10) := ⟨h.2 9 (by decide), (by decide +kernel : ∀ o ∈ xpLL, x_kind (o + 9) = (10, 10)) o h.1⟩
theorem xoL_10 {g : xG} {o : Nat} (h : xpL g o) : x_ok g (o + 10) (1, 10) := ⟨h.2 10 (by decide), (by decide +kernel : ∀ o ∈ xpLL, x_kind (o + 10) = (1, 10)) o h.1⟩
theorem xoL_11 {g : xG} {o : Nat} (h : xpL g o) : x_ok g (o + 11) (0, 10) := ⟨h.2 11 (by decide), (by decide +kernel : ∀ o ∈ xpLL, x_kind (o + 11) = (0, 10)) o h.1⟩
theorem xoL_12 {g : xG} {o : Nat} (h : xpL g o) : x_ok g (o + 12) (0, 10) := ⟨h.2 12 (by decide), (by decide +kernel : ∀ o ∈ xpLL, x_kind (o + 12) = (0, 10)) o h.1⟩
theorem xoL_13 {g : xG} {o : Nat} (h : xpL g o) : x_ok g (o + 13) (0, 10) := ⟨h.2 13 (by decide), (by decide +kernel : ∀ o ∈ xpLL, x_kind (o + 13) = (0, 10)) o h.1⟩
theorem xoL_14 {g : xG} {o : Nat} (h : xpL g o) : x_ok g (o + 14) (0, 10) := ⟨h.2 14 (by decide), (by decide +kernel : ∀ o ∈ xpLL, x_kind (o + 14) = (0, 10)) o h.1⟩
theorem xoL_15 {g : xG} {o : Nat} (h : xpL g o) : x_ok g (o + 15) (0, 10) := ⟨h.2 15 (by decide), (by decide +kernel : ∀ o ∈ xpLL, x_kind (o + 15) = (0, 10)) o h.1⟩
theorem xoL_16 {g : xG} {o : Nat} (h : xpL g o) : x_ok g (o + 16) (0, 12) := ⟨h.2 16 (by decide), (by decide +kernel : ∀ o ∈ xpLL, x_kind (o + 16) = (0, 12)) o h.1⟩
theorem xoL_17 {g : xG} {o : Nat} (h : xpL g o) : x_ok g (o + 17) (1, 4) := ⟨h.2 17 (by decide), (by decide +kernel : ∀ o ∈ xpLL, x_kind (o + 17) = (1, 4)) o h.1⟩
theorem xoL_18 {g : xG} {o : Nat} (h : xpL g o) : x_ok g (o + 18) (0, 4) := ⟨h.2 18 (by decide), (by decide +kernel : ∀ o ∈ xpLL, x_kind (o + 18) = (0, 4)) o h.1⟩
theorem xoL_19 {g : xG} {o : Nat} (h : xpL g o) : x_ok g (o + 19) (0, 4) := ⟨h.2 19 (by decide), (by decide +kernel : ∀ o ∈ xpLL, x_kind (o + 19) = (0, 4)) o h.1⟩
theorem xoL_20 {g : xG} {o : Nat} (h : xpL g o) : x_ok g (o + 20) (0, 4) := ⟨h.2 20 (by decide), (by decide +kernel : ∀ o ∈ xpLL, x_kind (o + 20) = (0, 4)) o h.1⟩
theorem xoL_21 {g : xG} {o : Nat} (h : xpL g o) : x_ok g (o + 21) (0, 12) := ⟨h.2 21 (by decide), (by decide +kernel : ∀ o ∈ xpLL, x_kind (o + 21) = (0, 12)) o h.1⟩
theorem xoL_22 {g : xG} {o : Nat} (h : xpL g o) : x_ok g (o + 22) (0, 8) := ⟨h.2 22 (by decide), (by decide +kernel : ∀ o ∈ xpLL, x_kind (o + 22) = (0, 8)) o h.1⟩
theorem xoL_23 {g : xG} {o : Nat} (h : xpL g o) : x_ok g (o + 23) (0, 10) := ⟨h.2 23 (by decide), (by decide +kernel : ∀ o ∈ xpLL, x_kind (o + 23) = (0, 10)) o h.1⟩
theorem xoL_24 {g : xG} {o : Nat} (h : xpL g o) : x_ok g (o + 24) (0, 10) := ⟨h.2 24 (by decide), (by decide +kernel : ∀ o ∈ xpLL, x_kind (o + 24) = (0, 10)) o h.1⟩
theorem xoL_25 {g : xG} {o : Nat} (h : xpL g o) : x_ok g (o + 25) (0, 10) := ⟨h.2 25 (by decide), (by decide +kernel : ∀ o ∈ xpLL, x_kind (o + 25) = (0, 10)) o h.1⟩
theorem xoL_26 {g : xG} {o : Nat} (h : xpL g o) : x_ok g (o + 26) (0, 10) := ⟨h.2 26 (by decide), (by decide +kernel : ∀ o ∈ xpLL, x_kind (o + 26) = (0, 10)) o h.1⟩
theorem xoT_0 {g : xG} {o : Nat} (h : xpT g o) : x_ok g o (18, 16) := ⟨h.2 0 (by decide), (by decide +kernel : ∀ o ∈ xpTL, x_kind o = (18, 16)) o h.1⟩
theorem xoT_1 {g : xG} {o : Nat} (h : xpT g o) : x_ok g (o + 1) (1, 28) := ⟨h.2 1 (by decide), (by decide +kernel : ∀ o ∈ xpTL, x_kind (o + 1) = (1, 28)) o h.1⟩
theorem xoT_2 {g : xG} {o : Nat} (h : xpT g o) : x_ok g (o + 2) (0, x_len (o + 2)) := ⟨h.2 2 (by decide), (by decide +kernel : ∀ o ∈ xpTL, x_kind (o + 2) = (0, x_len (o + 2))) o h.1⟩
theorem xoT_3 {g : xG} {o : Nat} (h : xpT g o) : x_ok g (o + 3) (0, x_len (o + 3)) := ⟨h.2 3 (by decide), (by decide +kernel : ∀ o ∈ xpTL, x_kind (o + 3) = (0, x_len (o + 3))) o h.1⟩
theorem xoT_4 {g : xG} {o : Nat} (h : xpT g o) : x_ok g (o + 4) (1, x_len (o + 4)) := ⟨h.2 4 (by decide), (by decide +kernel : ∀ o ∈ xpTL, x_kind (o + 4) = (1, x_len (o + 4))) o h.1⟩
theorem xoT_5 {g : xG} {o : Nat} (h : xpT g o) : x_ok g (o + 5) (0, x_len (o + 5)) := ⟨h.2 5 (by decide), (by decide +kernel : ∀ o ∈ xpTL, x_kind (o + 5) = (0, x_len (o + 5))) o h.1⟩
theorem xoN_0 {g : xG} {o : Nat} (h : xpN g o) : x_ok g o (14, 7) := ⟨h.2 0 (by decide), (by decide +kernel : ∀ o ∈ xpNL, x_kind o = (14, 7)) o h.1⟩
theorem xoN_1 {g : xG} {o : Nat} (h : xpN g o) : x_ok g (o + 1) (0, 60) := ⟨h.2 1 (by decide), (by decide +kernel : ∀ o ∈ xpNL, x_kind (o + 1) = (0, 60)) o h.1⟩
theorem xoN_2 {g : xG} {o : Nat} (h : xpN g o) : x_ok g (o + 2) (0, 60) := ⟨h.2 2 (by decide), (by decide +kernel : ∀ o ∈ xpNL, x_kind (o + 2) = (0, 60)) o h.1⟩
theorem xoN_3 {g : xG} {o : Nat} (h : xpN g o) : x_ok g (o + 3) (0, 60) := ⟨h.2 3 (by decide), (by decide +kernel : ∀ o ∈ xpNL, x_kind (o + 3) = (0, 60)) o h.1⟩
theorem xoN_4 {g : xG} {o : Nat} (h : xpN g o) : x_ok g (o + 4) (0, 60) := ⟨h.2 4 (by decide), (by decide +kernel : ∀ o ∈ xpNL, x_kind (o + 4) = (0, 60)) o h.1⟩
theorem xoY_0 {g : xG} {o : Nat} (h : xpY g o) : x_ok g o (19, 3) := ⟨h.2 0 (by decide), (by decide +kernel : ∀ o ∈ xpYL, x_kind o = (19, 3)) o h.1⟩
theorem xoY_1 {g : xG} {o : Nat} (h : xpY g o) : x_ok g (o + 1) (1, 60) := ⟨h.2 1 (by decide), (by decide +kernel : ∀ o ∈ xpYL, x_kind (o + 1) = (1, 60)) o h.1⟩
theorem xoF_0 {g : xG} {o : Nat} (h : xpF g o) : x_ok g o (13, 9) := ⟨h.2 0 (by decide), (by decide +kernel : ∀ o ∈ xpFL, x_kind o = (13, 9)) o h.1⟩
theorem xoF_1 {g : xG} {o : Nat} (h : xpF g o) : x_ok g (o + 1) (0, 60) := ⟨h.2 1 (by decide), (by decide +kernel : ∀ o ∈ xpFL, x_kind (o + 1) = (0, 60)) o h.1⟩
theorem xrT_0_0 {g : xG} {o : Nat} (h : xpT g o) : x_ref o 0 = (o + 1) := (by decide +kernel : ∀ o ∈ xpTL, x_ref o 0 = (o + 1)) o h.1
theorem xrT_0_2 {g : xG} {o : Nat} (h : xpT g o) : x_ref o 2 = (o + 2) := (by decide +kernel : ∀ o ∈ xpTL, x_ref o 2 = (o + 2)) o h.1
theorem xrT_0_3 {g : xG} {o : Nat} (h : xpT g o) : x_ref o 3 = (o + 3) := (by decide +kernel : ∀ o ∈ xpTL, x_ref o 3 = (o + 3)) o h.1
theorem xrT_0_4 {g : xG} {o : Nat} (h : xpT g o) : x_ref o 4 = (o + 4) := (by decide +kernel : ∀ o ∈ xpTL, x_ref o 4 = (o + 4)) o h.1
theorem xrT_0_5 {g : xG} {o : Nat} (h : xpT g o) : x_ref o 5 = (o + 5) := (by decide +kernel : ∀ o ∈ xpTL, x_ref o 5 = (o + 5)) o h.1
theorem xrF_0_8 {g : xG} {o : Nat} (h : xpF g o) : x_ref o 8 = (o + 1) := (by decide +kernel : ∀ o ∈ xpFL, x_ref o 8 = (o + 1)) o h.1
theorem xrY_0_0 {g : xG} {o : Nat} (h : xpY g o) : x_ref o 0 = (o + 1) := (by decide +kernel : ∀ o ∈ xpYL, x_ref o 0 = (o + 1)) o h.1
theorem xrN_0_3 {g : xG} {o : Nat} (h : xpN g o) : x_ref o 3 = (o + 1) := (by decide +kernel : ∀ o ∈ xpNL, x_ref o 3 = (o + 1)) o h.1
theorem xrN_0_4 {g : xG} {o : Nat} (h : xpN g o) : x_ref o 4 = (o + 2) := (by decide +kernel : ∀ o ∈ xpNL, x_ref o 4 = (o + 2)) o h.1
theorem xrN_0_5 {g : xG} {o : Nat} (h : xpN g o) : x_ref o 5 = (o + 3) := (by decide +kernel : ∀ o ∈ xpNL, x_ref o 5 = (o + 3)) o h.1
theorem xrN_0_6 {g : xG} {o : Nat} (h : xpN g o) : x_ref o 6 = (o + 4) := (by decide +kernel : ∀ o ∈ xpNL, x_ref o 6 = (o + 4)) o h.1
theorem xrL_0_0 {g : xG} {o : Nat} (h : xpL g o) : x_ref o 0 = (o + 1) := (by decide +kernel : ∀ o ∈ xpLL, x_ref o 0 = (o + 1)) o h.1
theorem xrL_0_1 {g : xG} {o : Nat} (h : xpL g o) : x_ref o 1 = (o + 9) := (by decide +kernel : ∀ o ∈ xpLL, x_ref o 1 = (o + 9)) o h.1
theorem xrL_0_3 {g : xG} {o : Nat} (h : xpL g o) : x_ref o 3 = (o + 17) := (by decide +kernel : ∀ o ∈ xpLL, x_ref o 3 = (o + 17)) o h.1
theorem xrL_0_4 {g : xG} {o : Nat} (h : xpL g o) : x_ref o 4 = (o + 18) := (by decide +kernel : ∀ o ∈ xpLL, x_ref o 4 = (o + 18)) o h.1
theorem xrL_0_5 {g : xG} {o : Nat} (h : xpL g o) : x_ref o 5 = (o + 19) := (by decide +kernel : ∀ o ∈ xpLL, x_ref o 5 = (o + 19)) o h.1
theorem xrL_0_6 {g : xG} {o : Nat} (h : xpL g o) : x_ref o 6 = (o + 20) := (by decide +kernel : ∀ o ∈ xpLL, x_ref o 6 = (o + 20)) o h.1
theorem xrL_0_7 {g : xG} {o : Nat} (h : xpL g o) : x_ref o 7 = (o + 21) := (by decide +kernel : ∀ o ∈ xpLL, x_ref o 7 = (o + 21)) o h.1
theorem xrL_0_10 {g : xG} {o : Nat} (h : xpL g o) : x_ref o 10 = (o + 22) := (by decide +kernel : ∀ o ∈ xpLL, x_ref o 10 = (o + 22)) o h.1
theorem xrL_0_11 {g : xG} {o : Nat} (h : xpL g o) : x_ref o 11 = (o + 23) := (by decide +kernel : ∀ o ∈ xpLL, x_ref o 11 = (o + 23)) o h.1
theorem xrL_0_12 {g : xG} {o : Nat} (h : xpL g o) : x_ref o 12 = (o + 24) := (by decide +kernel : ∀ o ∈ xpLL, x_ref o 12 = (o + 24)) o h.1
theorem xrL_0_13 {g : xG} {o : Nat} (h : xpL g o) : x_ref o 13 = (o + 25) := (by decide +kernel : ∀ o ∈ xpLL, x_ref o 13 = (o + 25)) o h.1
theorem xrL_0_14 {g : xG} {o : Nat} (h : xpL g o) : x_ref o 14 = (o + 26) := (by decide +kernel : ∀ o ∈ xpLL, x_ref o 14 = (o + 26)) o h.1
theorem xrL_1_2 {g : xG} {o : Nat} (h : xpL g o) : x_ref (o + 1) 2 = (o + 2) := (by decide +kernel : ∀ o ∈ xpLL, x_ref (o + 1) 2 = (o + 2)) o h.1
theorem xrL_1_3 {g : xG} {o : Nat} (h : xpL g o) : x_ref (o + 1) 3 = (o + 3) := (by decide +kernel : ∀ o ∈ xpLL, x_ref (o + 1) 3 = (o + 3)) o h.1
theorem xrL_1_4 {g : xG} {o : Nat} (h : xpL g o) : x_ref (o + 1) 4 = (o + 4) := (by decide +kernel : ∀ o ∈ xpLL, x_ref (o + 1) 4 = (o + 4)) o h.1
theorem xrL_1_5 {g : xG} {o : Nat} (h : xpL g o) : x_ref (o + 1) 5 = (o + 5) := (by decide +kernel : ∀ o ∈ xpLL, x_ref (o + 1) 5 = (o + 5)) o h.1
theorem xrL_1_6 {g : xG} {o : Nat} (h : xpL g o) : x_ref (o + 1) 6 = (o + 6) := (by decide +kernel : ∀ o ∈ xpLL, x_ref (o + 1) 6 = (o + 6)) o h.1
theorem xrL_1_7 {g : xG} {o : Nat} (h : xpL g o) : x_ref (o + 1) 7 = (o + 7) := (by decide +kernel : ∀ o ∈ xpLL, x_ref (o + 1) 7 = (o + 7)) o h.1
theorem xrL_1_8 {g : xG} {o : Nat} (h : xpL g o) : x_ref (o + 1) 8 = (o + 8) := (by decide +kernel : ∀ o ∈ xpLL, x_ref (o + 1) 8 = (o + 8)) o h.1
theorem xrL_9_3 {g : xG} {o : Nat} (h : xpL g o) : x_ref (o + 9) 3 = (o + 10) := (by decide +kernel : ∀ o ∈ xpLL, x_ref (o + 9) 3 = (o + 10)) o h.1
theorem xrL_9_4 {g : xG} {o : Nat} (h : xpL g o) : x_ref (o + 9) 4 = (o + 11) := (by decide +kernel : ∀ o ∈ xpLL, x_ref (o + 9) 4 = (o + 11)) o h.1
theorem xrL_9_5 {g : xG} {o : Nat} (h : xpL g o) : x_ref (o + 9) 5 = (o + 12) := (by decide +kernel : ∀ o ∈ xpLL, x_ref (o + 9) 5 = (o + 12)) o h.1
theorem xrL_9_6 {g : xG} {o : Nat} (h : xpL g o) : x_ref (o + 9) 6 = (o + 13) := (by decide +kernel : ∀ o ∈ xpLL, x_ref (o + 9) 6 = (o + 13)) o h.1
theorem xrL_9_7 {g : xG} {o : Nat} (h : xpL g o) : x_ref (o + 9) 7 = (o + 14) := (by decide +kernel : ∀ o ∈ xpLL, x_ref (o + 9) 7 = (o + 14)) o h.1
theorem xrL_9_8 {g : xG} {o : Nat} (h : xpL g o) : x_ref (o + 9) 8 = (o + 15) := (by decide +kernel : ∀ o ∈ xpLL, x_ref (o + 9) 8 = (o + 15)) o h.1
theorem xrL_9_9 {g : xG} {o : Nat} (h : xpL g o) : x_ref (o + 9) 9 = (o + 16) := (by decide +kernel : ∀ o ∈ xpLL, x_ref (o + 9) 9 = (o + 16)) o h.1
theorem xoX_0 {g : xG} (h : xpX g) : x_ok g 0 (20, 19) := ⟨h 0 (by decide), by decide +kernel⟩
theorem xoX_1 {g : xG} (h : xpX g) : x_ok g 1 (3, 3) := ⟨h 1 (by decide), by decide +kernel⟩
theorem xoX_2 {g : xG} (h : xpX g) : x_ok g 2 (4, 3) := ⟨h 2 (by decide), by decide +kernel⟩
theorem xoX_3 {g : xG} (h : xpX g) : x_ok g 3 (5, 4) := ⟨h 3 (by decide), by decide +kernel⟩
theorem xoX_4 {g : xG} (h : xpX g) : x_ok g 4 (2, 900) := ⟨h 4 (by decide), by decide +kernel⟩
theorem xoX_5 {g : xG} (h : xpX g) : x_ok g 5 (16, 7) := ⟨h 5 (by decide), by decide +kernel⟩
theorem xoX_6 {g : xG} (h : xpX g) : x_ok g 6 (6, 10) := ⟨h 6 (by decide), by decide +kernel⟩
theorem xoX_17 {g : xG} (h : xpX g) : x_ok g 17 (6, 12) := ⟨h 17 (by decide), by decide +kernel⟩
theorem xoX_30 {g : xG} (h : xpX g) : x_ok g 30 (0, 12) := ⟨h 30 (by decide), by decide +kernel⟩
theorem xoX_31 {g : xG} (h : xpX g) : x_ok g 31 (12, 2) := ⟨h 31 (by decide), by decide +kernel⟩
theorem xoX_32 {g : xG} (h : xpX g) : x_ok g 32 (15, 4) := ⟨h 32 (by decide), by decide +kernel⟩
theorem xoX_33 {g : xG} (h : xpX g) : x_ok g 33 (0, 3) := ⟨h 33 (by decide), by decide +kernel⟩
theorem xoM_272 {g : xG} (h : xpM g) : x_ok g 272 (21, 44) := ⟨h 272 (by decide) (by decide), by decide +kernel⟩
theorem xoM_273 {g : xG} (h : xpM g) : x_ok g 273 (0, 3668) := ⟨h 273 (by decide) (by decide), by decide +kernel⟩
theorem xoM_274 {g : xG} (h : xpM g) : x_ok g 274 (1, 126) := ⟨h 274 (by decide) (by decide), by decide +kernel⟩
theorem xoM_275 {g : xG} (h : xpM g) : x_ok g 275 (0, 4) := ⟨h 275 (by decide) (by decide), by decide +kernel⟩
theorem xoM_276 {g : xG} (h : xpM g) : x_ok g 276 (0, 4) := ⟨h 276 (by decide) (by decide), by decide +kernel⟩
theorem xoM_277 {g : xG} (h : xpM g) : x_ok g 277 (1, 240) := ⟨h 277 (by decide) (by decide), by decide +kernel⟩
theorem xoM_278 {g : xG} (h : xpM g) : x_ok g 278 (2, 900) := ⟨h 278 (by decide) (by decide), by decide +kernel⟩
theorem xoM_279 {g : xG} (h : xpM g) : x_ok g 279 (2, 900) := ⟨h 279 (by decide) (by decide), by decide +kernel⟩
theorem xoM_280 {g : xG} (h : xpM g) : x_ok g 280 (0, 3) := ⟨h 280 (by decide) (by decide), by decide +kernel⟩
theorem xoM_281 {g : xG} (h : xpM g) : x_ok g 281 (0, 10) := ⟨h 281 (by decide) (by decide), by decide +kernel⟩
theorem xoM_282 {g : xG} (h : xpM g) : x_ok g 282 (0, 10) := ⟨h 282 (by decide) (by decide), by decide +kernel⟩
theorem xoM_283 {g : xG} (h : xpM g) : x_ok g 283 (0, 4) := ⟨h 283 (by decide) (by decide), by decide +kernel⟩
theorem xoM_284 {g : xG} (h : xpM g) : x_ok g 284 (0, 4) := ⟨h 284 (by decide) (by decide), by decide +kernel⟩
theorem xoM_285 {g : xG} (h : xpM g) : x_ok g 285 (0, 7) := ⟨h 285 (by decide) (by decide), by decide +kernel⟩
theorem xoM_286 {g : xG} (h : xpM g) : x_ok g 286 (0, 10) := ⟨h 286 (by decide) (by decide), by decide +kernel⟩
theorem xoM_287 {g : xG} (h : xpM g) : x_ok g 287 (0, 80) := ⟨h 287 (by decide) (by decide), by decide +kernel⟩
theorem xoM_288 {g : xG} (h : xpM g) : x_ok g 288 (0, 5) := ⟨h 288 (by decide) (by decide), by decide +kernel⟩
theorem xoM_289 {g : xG} (h : xpM g) : x_ok g 289 (0, 5) := ⟨h 289 (by decide) (by decide), by decide +kernel⟩
theorem xrX_0_0 : x_ref 0 0 = 83 := by decide +kernel
theorem xrX_0_1 : x_ref 0 1 = 58 := by decide +kernel
theorem xrX_0_2 : x_ref 0 2 = 110 := by decide +kernel
theorem xrX_0_3 : x_ref 0 3 = 5 := by decide +kernel
theorem xrX_0_4 : x_ref 0 4 = 31 := by decide +kernel
theorem xrX_0_5 : x_ref 0 5 = 32 := by decide +kernel
theorem xrX_0_6 : x_ref 0 6 = 46 := by decide +kernel
theorem xrX_0_7 : x_ref 0 7 = 48 := by decide +kernel
theorem xrX_0_8 : x_ref 0 8 = 1 := by decide +kernel
theorem xrX_0_9 : x_ref 0 9 = 2 := by decide +kernel
theorem xrX_0_11 : x_ref 0 11 = 3 := by decide +kernel
theorem xrX_0_12 : x_ref 0 12 = 4 := by decide +kernel
theorem xrX_5_0 : x_ref 5 0 = 137 := by decide +kernel
theorem xrX_5_1 : x_ref 5 1 = 6 := by decide +kernel
theorem xrX_5_2 : x_ref 5 2 = 17 := by decide +kernel
theorem xrX_5_3 : x_ref 5 3 = 30 := by decide +kernel
theorem xrX_31_0 : x_ref 31 0 = 34 := by decide +kernel
theorem xrX_31_1 : x_ref 31 1 = 164 := by decide +kernel
theorem xrX_32_0 : x_ref 32 0 = 40 := by decide +kernel
theorem xrX_32_1 : x_ref 32 1 = 63 := by decide +kernel
theorem xrX_32_2 : x_ref 32 2 = 33 := by decide +kernel
theorem xrM_272_0 : x_ref 272 0 = 273 := by decide +kernel
theorem xrM_272_1 : x_ref 272 1 = 274 := by decide +kernel
theorem xrM_272_5 : x_ref 272 5 = 275 := by decide +kernel
theorem xrM_272_6 : x_ref 272 6 = 276 := by decide +kernel
theorem xrM_272_7 : x_ref 272 7 = 277 := by decide +kernel
theorem xrM_272_8 : x_ref 272 8 = 278 := by decide +kernel
theorem xrM_272_9 : x_ref 272 9 = 279 := by decide +kernel
theorem xrM_272_20 : x_ref 272 20 = 280 := by decide +kernel
theorem xrM_272_26 : x_ref 272 26 = 281 := by decide +kernel
theorem xrM_272_27 : x_ref 272 27 = 282 := by decide +kernel
theorem xrM_272_30 : x_ref 272 30 = 283 := by decide +kernel
theorem xrM_272_31 : x_ref 272 31 = 284 := by decide +kernel
theorem xrM_272_35 : x_ref 272 35 = 285 := by decide +kernel
theorem xrM_272_36 : x_ref 272 36 = 286 := by decide +kernel
theorem xrM_272_39 : x_ref 272 39 = 287 := by decide +kernel
theorem xrM_272_40 : x_ref 272 40 = 288 := by decide +kernel
theorem xrM_272_41 : x_ref 272 41 = 289 := by decide +kernel
theorem xpL_83 {g : xG} (h : xpX g) : xpL g 83 := ⟨by decide, fun i hi => h _ (by omega)⟩
theorem xpL_110 {g : xG} (h : xpX g) : xpL g 110 := ⟨by decide, fun i hi => h _ (by omega)⟩
theorem xpL_137 {g : xG} (h : xpX g) : xpL g 137 := ⟨by decide, fun i hi => h _ (by omega)⟩
theorem xpL_164 {g : xG} (h : xpX g) : xpL g 164 := ⟨by decide, fun i hi => h _ (by omega)⟩
theorem xpL_191 {g : xG} (h : xpX g) : xpL g 191 := ⟨by decide, fun i hi => h _ (by omega)⟩
theorem xpL_218 {g : xG} (h : xpX g) : xpL g 218 := ⟨by decide, fun i hi => h _ (by omega)⟩
theorem xpL_245 {g : xG} (h : xpX g) : xpL g 245 := ⟨by decide, fun i hi => h _ (by omega)⟩
theorem xpL_of {g : xG} {k : Nat} (h : xpX g) (hk : k ∈ ([83, 110, 137, 164, 191, 218, 245] : List Nat)) : xpL g k := ⟨hk, fun i hi => h _ (by have h9 := (by decide : ∀ k ∈ ([83, 110, 137, 164, 191, 218, 245] : List Nat), k + 27 ≤ 272) k hk; omega)⟩
theorem xpT_34 {g : xG} (h : xpX g) : xpT g 34 := ⟨by decide, fun i hi => h _ (by omega)⟩
theorem xpT_40 {g : xG} (h : xpX g) : xpT g 40 := ⟨by decide, fun i hi => h _ (by omega)⟩
theorem xpT_of {g : xG} {k : Nat} (h : xpX g) (hk : k ∈ ([34, 40] : List Nat)) : xpT g k := ⟨hk, fun i hi => h _ (by have h9 := (by decide : ∀ k ∈ ([34, 40] : List Nat), k + 6 ≤ 272) k hk; omega)⟩
theorem xpN_58 {g : xG} (h : xpX g) : xpN g 58 := ⟨by decide, fun i hi => h _ (by omega)⟩
theorem xpN_63 {g : xG} (h : xpX g) : xpN g 63 := ⟨by decide, fun i hi => h _ (by omega)⟩
theorem xpN_68 {g : xG} (h : xpX g) : xpN g 68 := ⟨by decide, fun i hi => h _ (by omega)⟩
theorem xpN_73 {g : xG} (h : xpX g) : xpN g 73 := ⟨by decide, fun i hi => h _ (by omega)⟩
theorem xpN_78 {g : xG} (h : xpX g) : xpN g 78 := ⟨by decide, fun i hi => h _ (by omega)⟩
theorem xpN_of {g : xG} {k : Nat} (h : xpX g) (hk : k ∈ ([58, 63, 68, 73, 78] : List Nat)) : xpN g k := ⟨hk, fun i hi => h _ (by have h9 := (by decide : ∀ k ∈ ([58, 63, 68, 73, 78] : List Nat), k + 5 ≤ 272) k hk; omega)⟩
theorem xpY_50 {g : xG} (h : xpX g) : xpY g 50 := ⟨by decide, fun i hi => h _ (by omega)⟩
theorem xpY_52 {g : xG} (h : xpX g) : xpY g 52 := ⟨by decide, fun i hi => h _ (by omega)⟩
theorem xpY_54 {g : xG} (h : xpX g) : xpY g 54 := ⟨by decide, fun i hi => h _ (by omega)⟩
theorem xpY_56 {g : xG} (h : xpX g) : xpY g 56 := ⟨by decide, fun i hi => h _ (by omega)⟩
theorem xpY_of {g : xG} {k : Nat} (h : xpX g) (hk : k ∈ ([50, 52, 54, 56] : List Nat)) : xpY g k := ⟨hk, fun i hi => h _ (by have h9 := (by decide : ∀ k ∈ ([50, 52, 54, 56] : List Nat), k + 2 ≤ 272) k hk; omega)⟩
theorem xpF_46 {g : xG} (h : xpX g) : xpF g 46 := ⟨by decide, fun i hi => h _ (by omega)⟩
theorem xpF_48 {g : xG} (h : xpX g) : xpF g 48 := ⟨by decide, fun i hi => h _ (by omega)⟩
theorem xpF_of {g : xG} {k : Nat} (h : xpX g) (hk : k ∈ ([46, 48] : List Nat)) : xpF g k := ⟨hk, fun i hi => h _ (by have h9 := (by decide : ∀ k ∈ ([46, 48] : List Nat), k + 2 ≤ 272) k hk; omega)⟩
theorem xpL_m {g : xG} {i : Int32} (h : xpX g) (hi : vp_in i 3) : xpL g (191 + 27 * i.toNatClampNeg) := by
  obtain ⟨j, hj, rfl⟩ := vp_in_of hi (by decide)
  rw [nI_clamp (by omega)]
  exact xpL_of h ((by decide : ∀ j, j < 3 → 191 + 27 * j ∈ ([83, 110, 137, 164, 191, 218, 245] : List Nat)) j hj)
theorem xpN_m {g : xG} {i : Int32} (h : xpX g) (hi : vp_in i 3) : xpN g (68 + 5 * i.toNatClampNeg) := by
  obtain ⟨j, hj, rfl⟩ := vp_in_of hi (by decide)
  rw [nI_clamp (by omega)]
  exact xpN_of h ((by decide : ∀ j, j < 3 → 68 + 5 * j ∈ ([58, 63, 68, 73, 78] : List Nat)) j hj)
theorem xpY_m {g : xG} {i : Int32} (h : xpX g) (hi : vp_in i 4) : xpY g (50 + 2 * i.toNatClampNeg) := by
  obtain ⟨j, hj, rfl⟩ := vp_in_of hi (by decide)
  rw [nI_clamp (by omega)]
  exact xpY_of h ((by decide : ∀ j, j < 4 → 50 + 2 * j ∈ ([50, 52, 54, 56] : List Nat)) j hj)
theorem xa_1 {i : Int32} (hi : vp_in i 3) : x_ref 1 i.toNatClampNeg = 191 + 27 * i.toNatClampNeg := by
  obtain ⟨j, hj, rfl⟩ := vp_in_of hi (by decide)
  rw [nI_clamp (by omega)]
  exact (by decide +kernel : ∀ j, j < 3 → x_ref 1 j = 191 + 27 * j) j hj
theorem xa_2 {i : Int32} (hi : vp_in i 3) : x_ref 2 i.toNatClampNeg = 68 + 5 * i.toNatClampNeg := by
  obtain ⟨j, hj, rfl⟩ := vp_in_of hi (by decide)
  rw [nI_clamp (by omega)]
  exact (by decide +kernel : ∀ j, j < 3 → x_ref 2 j = 68 + 5 * j) j hj
theorem xa_3 {i : Int32} (hi : vp_in i 4) : x_ref 3 i.toNatClampNeg = 50 + 2 * i.toNatClampNeg := by
  obtain ⟨j, hj, rfl⟩ := vp_in_of hi (by decide)
  rw [nI_clamp (by omega)]
  exact (by decide +kernel : ∀ j, j < 4 → x_ref 3 j = 50 + 2 * j) j hj
theorem xa_6 {i : Int32} (hi : vp_in i 10) : x_ref 6 i.toNatClampNeg = 7 + i.toNatClampNeg := by
  obtain ⟨j, hj, rfl⟩ := vp_in_of hi (by decide)
  rw [nI_clamp (by omega)]
  exact (by decide +kernel : ∀ j, j < 10 → x_ref 6 j = 7 + j) j hj
theorem xok_6 {g : xG} {i : Int32} (h : xpX g) (hi : vp_in i 10) : x_ok g (7 + i.toNatClampNeg) (0, 7) := by
  obtain ⟨j, hj, rfl⟩ := vp_in_of hi (by decide)
  rw [nI_clamp (by omega)]
  exact ⟨h _ (by omega), (by decide +kernel : ∀ j, j < 10 → x_kind (7 + j) = (0, 7)) j hj⟩
theorem xa_17 {i : Int32} (hi : vp_in i 12) : x_ref 17 i.toNatClampNeg = 18 + i.toNatClampNeg := by
  obtain ⟨j, hj, rfl⟩ := vp_in_of hi (by decide)
  rw [nI_clamp (by omega)]
  exact (by decide +kernel : ∀ j, j < 12 → x_ref 17 j = 18 + j) j hj
theorem xok_17 {g : xG} {i : Int32} (h : xpX g) (hi : vp_in i 12) : x_ok g (18 + i.toNatClampNeg) (0, 7) := by
  obtain ⟨j, hj, rfl⟩ := vp_in_of hi (by decide)
  rw [nI_clamp (by omega)]
  exact ⟨h _ (by omega), (by decide +kernel : ∀ j, j < 12 → x_kind (18 + j) = (0, 7)) j hj⟩
theorem xb_f {b : Bool} (h : xb b = 0) : b = false := by cases b <;> first | rfl | exact absurd h (by decide)
theorem xb_t {b : Bool} (h : ¬ xb b = 0) : b = true := by cases b <;> first | rfl | exact absurd (by decide) h
theorem xb_ff {b : Bool} (h : ¬ ¬ xb b = 0) : b = false := xb_f (Classical.not_not.mp h)
theorem x_nz1 {x : Int32} (h : x = 0 ∨ x = 1) : narrow .boolean (.int x) = .int x ∧ fits .boolean (.int x) = true := by rcases h with rfl | rfl <;> exact ⟨rfl, rfl⟩
theorem qX10_fine : yX10_fine.cls = RX10 ∧ yX10_fine.cls ≠ "java/lang/invoke/MethodHandle" ∧ yX10_fine.cls ≠ "java/lang/invoke/VarHandle" ∧ (parseMethodDescriptor yX10_fine.desc).map (fun d => d.parameters.length) = some 1 := by decide +kernel
theorem qX10_none : yX10_none.cls = RX10 ∧ yX10_none.cls ≠ "java/lang/invoke/MethodHandle" ∧ yX10_none.cls ≠ "java/lang/invoke/VarHandle" ∧ (parseMethodDescriptor yX10_none.desc).map (fun d => d.parameters.length) = some 1 := by decide +kernel
theorem qX10_done : yX10_done.cls = RX10 ∧ yX10_done.cls ≠ "java/lang/invoke/MethodHandle" ∧ yX10_done.cls ≠ "java/lang/invoke/VarHandle" ∧ (parseMethodDescriptor yX10_done.desc).map (fun d => d.parameters.length) = some 0 := by decide +kernel
theorem qX10_refused : yX10_refused.cls = RX10 ∧ yX10_refused.cls ≠ "java/lang/invoke/MethodHandle" ∧ yX10_refused.cls ≠ "java/lang/invoke/VarHandle" ∧ (parseMethodDescriptor yX10_refused.desc).map (fun d => d.parameters.length) = some 1 := by decide +kernel
theorem qX10_isRoom : yX10_isRoom.cls = RX10 ∧ yX10_isRoom.cls ≠ "java/lang/invoke/MethodHandle" ∧ yX10_isRoom.cls ≠ "java/lang/invoke/VarHandle" ∧ (parseMethodDescriptor yX10_isRoom.desc).map (fun d => d.parameters.length) = some 1 := by decide +kernel
theorem qX10_isDoor : yX10_isDoor.cls = RX10 ∧ yX10_isDoor.cls ≠ "java/lang/invoke/MethodHandle" ∧ yX10_isDoor.cls ≠ "java/lang/invoke/VarHandle" ∧ (parseMethodDescriptor yX10_isDoor.desc).map (fun d => d.parameters.length) = some 1 := by decide +kernel
theorem qX10_isHourOfDay : yX10_isHourOfDay.cls ≠ "java/lang/invoke/MethodHandle" ∧ yX10_isHourOfDay.cls ≠ "java/lang/invoke/VarHandle" ∧ (parseMethodDescriptor yX10_isHourOfDay.desc).map (fun d => d.parameters.length) = some 1 := by decide +kernel
theorem qX10_isWithin : yX10_isWithin.cls ≠ "java/lang/invoke/MethodHandle" ∧ yX10_isWithin.cls ≠ "java/lang/invoke/VarHandle" ∧ (parseMethodDescriptor yX10_isWithin.desc).map (fun d => d.parameters.length) = some 3 := by decide +kernel
theorem qX10_status : yX10_status.cls = RX10 ∧ yX10_status.cls ≠ "java/lang/invoke/MethodHandle" ∧ yX10_status.cls ≠ "java/lang/invoke/VarHandle" ∧ (parseMethodDescriptor yX10_status.desc).map (fun d => d.parameters.length) = some 0 := by decide +kernel
theorem qX10_top : yX10_top.cls = RX10 ∧ yX10_top.cls ≠ "java/lang/invoke/MethodHandle" ∧ yX10_top.cls ≠ "java/lang/invoke/VarHandle" ∧ (parseMethodDescriptor yX10_top.desc).map (fun d => d.parameters.length) = some 0 := by decide +kernel
theorem qX10_bottom : yX10_bottom.cls = RX10 ∧ yX10_bottom.cls ≠ "java/lang/invoke/MethodHandle" ∧ yX10_bottom.cls ≠ "java/lang/invoke/VarHandle" ∧ (parseMethodDescriptor yX10_bottom.desc).map (fun d => d.parameters.length) = some 0 := by decide +kernel
theorem qX10_tellFraction : yX10_tellFraction.cls = RX10 ∧ yX10_tellFraction.cls ≠ "java/lang/invoke/MethodHandle" ∧ yX10_tellFraction.cls ≠ "java/lang/invoke/VarHandle" ∧ (parseMethodDescriptor yX10_tellFraction.desc).map (fun d => d.parameters.length) = some 2 := by decide +kernel
theorem qX10_commonDivisor : yX10_commonDivisor.cls ≠ "java/lang/invoke/MethodHandle" ∧ yX10_commonDivisor.cls ≠ "java/lang/invoke/VarHandle" ∧ (parseMethodDescriptor yX10_commonDivisor.desc).map (fun d => d.parameters.length) = some 2 := by decide +kernel
theorem qX10_trayAt : yX10_trayAt.cls = RX10 ∧ yX10_trayAt.cls ≠ "java/lang/invoke/MethodHandle" ∧ yX10_trayAt.cls ≠ "java/lang/invoke/VarHandle" ∧ (parseMethodDescriptor yX10_trayAt.desc).map (fun d => d.parameters.length) = some 1 := by decide +kernel
theorem qX10_tray : yX10_tray.cls = RX10 ∧ yX10_tray.cls ≠ "java/lang/invoke/MethodHandle" ∧ yX10_tray.cls ≠ "java/lang/invoke/VarHandle" ∧ (parseMethodDescriptor yX10_tray.desc).map (fun d => d.parameters.length) = some 3 := by decide +kernel
theorem qX10_write : yX10_write.cls = RX10 ∧ yX10_write.cls ≠ "java/lang/invoke/MethodHandle" ∧ yX10_write.cls ≠ "java/lang/invoke/VarHandle" ∧ (parseMethodDescriptor yX10_write.desc).map (fun d => d.parameters.length) = some 3 := by decide +kernel
theorem qX10_read : yX10_read.cls = RX10 ∧ yX10_read.cls ≠ "java/lang/invoke/MethodHandle" ∧ yX10_read.cls ≠ "java/lang/invoke/VarHandle" ∧ (parseMethodDescriptor yX10_read.desc).map (fun d => d.parameters.length) = some 2 := by decide +kernel
theorem qX10_pour : yX10_pour.cls = RX10 ∧ yX10_pour.cls ≠ "java/lang/invoke/MethodHandle" ∧ yX10_pour.cls ≠ "java/lang/invoke/VarHandle" ∧ (parseMethodDescriptor yX10_pour.desc).map (fun d => d.parameters.length) = some 5 := by decide +kernel
theorem qX10_feed : yX10_feed.cls = RX10 ∧ yX10_feed.cls ≠ "java/lang/invoke/MethodHandle" ∧ yX10_feed.cls ≠ "java/lang/invoke/VarHandle" ∧ (parseMethodDescriptor yX10_feed.desc).map (fun d => d.parameters.length) = some 5 := by decide +kernel
theorem qX10_putOnTape : yX10_putOnTape.cls = RX10 ∧ yX10_putOnTape.cls ≠ "java/lang/invoke/MethodHandle" ∧ yX10_putOnTape.cls ≠ "java/lang/invoke/VarHandle" ∧ (parseMethodDescriptor yX10_putOnTape.desc).map (fun d => d.parameters.length) = some 1 := by decide +kernel
theorem qX10_land : yX10_land.cls = RX10 ∧ yX10_land.cls ≠ "java/lang/invoke/MethodHandle" ∧ yX10_land.cls ≠ "java/lang/invoke/VarHandle" ∧ (parseMethodDescriptor yX10_land.desc).map (fun d => d.parameters.length) = some 1 := by decide +kernel
theorem qX10_nights : yX10_nights.cls = RX10 ∧ yX10_nights.cls ≠ "java/lang/invoke/MethodHandle" ∧ yX10_nights.cls ≠ "java/lang/invoke/VarHandle" ∧ (parseMethodDescriptor yX10_nights.desc).map (fun d => d.parameters.length) = some 1 := by decide +kernel
theorem qX10_emptyTape : yX10_emptyTape.cls = RX10 ∧ yX10_emptyTape.cls ≠ "java/lang/invoke/MethodHandle" ∧ yX10_emptyTape.cls ≠ "java/lang/invoke/VarHandle" ∧ (parseMethodDescriptor yX10_emptyTape.desc).map (fun d => d.parameters.length) = some 1 := by decide +kernel
theorem qX10_fault : yX10_fault.cls = RX10 ∧ yX10_fault.cls ≠ "java/lang/invoke/MethodHandle" ∧ yX10_fault.cls ≠ "java/lang/invoke/VarHandle" ∧ (parseMethodDescriptor yX10_fault.desc).map (fun d => d.parameters.length) = some 1 := by decide +kernel
theorem qX10_told : yX10_told.cls = RX10 ∧ yX10_told.cls ≠ "java/lang/invoke/MethodHandle" ∧ yX10_told.cls ≠ "java/lang/invoke/VarHandle" ∧ (parseMethodDescriptor yX10_told.desc).map (fun d => d.parameters.length) = some 1 := by decide +kernel
theorem qX10_room : yX10_room.cls = RX10 ∧ yX10_room.cls ≠ "java/lang/invoke/MethodHandle" ∧ yX10_room.cls ≠ "java/lang/invoke/VarHandle" ∧ (parseMethodDescriptor yX10_room.desc).map (fun d => d.parameters.length) = some 2 := by decide +kernel
theorem qX10_door : yX10_door.cls = RX10 ∧ yX10_door.cls ≠ "java/lang/invoke/MethodHandle" ∧ yX10_door.cls ≠ "java/lang/invoke/VarHandle" ∧ (parseMethodDescriptor yX10_door.desc).map (fun d => d.parameters.length) = some 2 := by decide +kernel
theorem qX10_endAsTold : yX10_endAsTold.cls ≠ "java/lang/invoke/MethodHandle" ∧ yX10_endAsTold.cls ≠ "java/lang/invoke/VarHandle" ∧ (parseMethodDescriptor yX10_endAsTold.desc).map (fun d => d.parameters.length) = some 1 := by decide +kernel
theorem qX10_errand : yX10_errand.cls = RX10 ∧ yX10_errand.cls ≠ "java/lang/invoke/MethodHandle" ∧ yX10_errand.cls ≠ "java/lang/invoke/VarHandle" ∧ (parseMethodDescriptor yX10_errand.desc).map (fun d => d.parameters.length) = some 2 := by decide +kernel
theorem qX10_tide : yX10_tide.cls = RX10 ∧ yX10_tide.cls ≠ "java/lang/invoke/MethodHandle" ∧ yX10_tide.cls ≠ "java/lang/invoke/VarHandle" ∧ (parseMethodDescriptor yX10_tide.desc).map (fun d => d.parameters.length) = some 1 := by decide +kernel
theorem qX10_asItFlows : yX10_asItFlows.cls = RX10 ∧ yX10_asItFlows.cls ≠ "java/lang/invoke/MethodHandle" ∧ yX10_asItFlows.cls ≠ "java/lang/invoke/VarHandle" ∧ (parseMethodDescriptor yX10_asItFlows.desc).map (fun d => d.parameters.length) = some 0 := by decide +kernel
theorem qX10_drive : yX10_drive.cls = RX10 ∧ yX10_drive.cls ≠ "java/lang/invoke/MethodHandle" ∧ yX10_drive.cls ≠ "java/lang/invoke/VarHandle" ∧ (parseMethodDescriptor yX10_drive.desc).map (fun d => d.parameters.length) = some 1 := by decide +kernel
theorem qX10_flow : yX10_flow.cls = RX10 ∧ yX10_flow.cls ≠ "java/lang/invoke/MethodHandle" ∧ yX10_flow.cls ≠ "java/lang/invoke/VarHandle" ∧ (parseMethodDescriptor yX10_flow.desc).map (fun d => d.parameters.length) = some 1 := by decide +kernel
theorem qX10_flowOpen : yX10_flowOpen.cls = RX10 ∧ yX10_flowOpen.cls ≠ "java/lang/invoke/MethodHandle" ∧ yX10_flowOpen.cls ≠ "java/lang/invoke/VarHandle" ∧ (parseMethodDescriptor yX10_flowOpen.desc).map (fun d => d.parameters.length) = some 1 := by decide +kernel
theorem qX10_deepest : yX10_deepest.cls = RX10 ∧ yX10_deepest.cls ≠ "java/lang/invoke/MethodHandle" ∧ yX10_deepest.cls ≠ "java/lang/invoke/VarHandle" ∧ (parseMethodDescriptor yX10_deepest.desc).map (fun d => d.parameters.length) = some 0 := by decide +kernel
theorem qX10_busiest : yX10_busiest.cls = RX10 ∧ yX10_busiest.cls ≠ "java/lang/invoke/MethodHandle" ∧ yX10_busiest.cls ≠ "java/lang/invoke/VarHandle" ∧ (parseMethodDescriptor yX10_busiest.desc).map (fun d => d.parameters.length) = some 0 := by decide +kernel
theorem qX10_spare : yX10_spare.cls = RX10 ∧ yX10_spare.cls ≠ "java/lang/invoke/MethodHandle" ∧ yX10_spare.cls ≠ "java/lang/invoke/VarHandle" ∧ (parseMethodDescriptor yX10_spare.desc).map (fun d => d.parameters.length) = some 1 := by decide +kernel
theorem qX10_low : yX10_low.cls = RX10 ∧ yX10_low.cls ≠ "java/lang/invoke/MethodHandle" ∧ yX10_low.cls ≠ "java/lang/invoke/VarHandle" ∧ (parseMethodDescriptor yX10_low.desc).map (fun d => d.parameters.length) = some 0 := by decide +kernel
theorem qX10_high : yX10_high.cls = RX10 ∧ yX10_high.cls ≠ "java/lang/invoke/MethodHandle" ∧ yX10_high.cls ≠ "java/lang/invoke/VarHandle" ∧ (parseMethodDescriptor yX10_high.desc).map (fun d => d.parameters.length) = some 1 := by decide +kernel
theorem qX10_linked : yX10_linked.cls = RX10 ∧ yX10_linked.cls ≠ "java/lang/invoke/MethodHandle" ∧ yX10_linked.cls ≠ "java/lang/invoke/VarHandle" ∧ (parseMethodDescriptor yX10_linked.desc).map (fun d => d.parameters.length) = some 1 := by decide +kernel
theorem qX10_hour : yX10_hour.cls = RX10 ∧ yX10_hour.cls ≠ "java/lang/invoke/MethodHandle" ∧ yX10_hour.cls ≠ "java/lang/invoke/VarHandle" ∧ (parseMethodDescriptor yX10_hour.desc).map (fun d => d.parameters.length) = some 1 := by decide +kernel
theorem qX10_hold : yX10_hold.cls = RX10 ∧ yX10_hold.cls ≠ "java/lang/invoke/MethodHandle" ∧ yX10_hold.cls ≠ "java/lang/invoke/VarHandle" ∧ (parseMethodDescriptor yX10_hold.desc).map (fun d => d.parameters.length) = some 2 := by decide +kernel
theorem qX10_wall : yX10_wall.cls = RX10 ∧ yX10_wall.cls ≠ "java/lang/invoke/MethodHandle" ∧ yX10_wall.cls ≠ "java/lang/invoke/VarHandle" ∧ (parseMethodDescriptor yX10_wall.desc).map (fun d => d.parameters.length) = some 2 := by decide +kernel
theorem qX10_bail : yX10_bail.cls = RX10 ∧ yX10_bail.cls ≠ "java/lang/invoke/MethodHandle" ∧ yX10_bail.cls ≠ "java/lang/invoke/VarHandle" ∧ (parseMethodDescriptor yX10_bail.desc).map (fun d => d.parameters.length) = some 2 := by decide +kernel
theorem qX10_wipe : yX10_wipe.cls = RX10 ∧ yX10_wipe.cls ≠ "java/lang/invoke/MethodHandle" ∧ yX10_wipe.cls ≠ "java/lang/invoke/VarHandle" ∧ (parseMethodDescriptor yX10_wipe.desc).map (fun d => d.parameters.length) = some 0 := by decide +kernel
theorem qX10_rota : yX10_rota.cls = RX10 ∧ yX10_rota.cls ≠ "java/lang/invoke/MethodHandle" ∧ yX10_rota.cls ≠ "java/lang/invoke/VarHandle" ∧ (parseMethodDescriptor yX10_rota.desc).map (fun d => d.parameters.length) = some 3 := by decide +kernel
theorem qX10_moon : yX10_moon.cls = RX10 ∧ yX10_moon.cls ≠ "java/lang/invoke/MethodHandle" ∧ yX10_moon.cls ≠ "java/lang/invoke/VarHandle" ∧ (parseMethodDescriptor yX10_moon.desc).map (fun d => d.parameters.length) = some 2 := by decide +kernel
theorem qX10_pump : yX10_pump.cls = RX10 ∧ yX10_pump.cls ≠ "java/lang/invoke/MethodHandle" ∧ yX10_pump.cls ≠ "java/lang/invoke/VarHandle" ∧ (parseMethodDescriptor yX10_pump.desc).map (fun d => d.parameters.length) = some 2 := by decide +kernel
theorem qX10_raise : yX10_raise.cls = RX10 ∧ yX10_raise.cls ≠ "java/lang/invoke/MethodHandle" ∧ yX10_raise.cls ≠ "java/lang/invoke/VarHandle" ∧ (parseMethodDescriptor yX10_raise.desc).map (fun d => d.parameters.length) = some 2 := by decide +kernel
theorem qX10_build : yX10_build.cls = RX10 ∧ yX10_build.cls ≠ "java/lang/invoke/MethodHandle" ∧ yX10_build.cls ≠ "java/lang/invoke/VarHandle" ∧ (parseMethodDescriptor yX10_build.desc).map (fun d => d.parameters.length) = some 1 := by decide +kernel
theorem qX10_asItIs : yX10_asItIs.cls = RX10 ∧ yX10_asItIs.cls ≠ "java/lang/invoke/MethodHandle" ∧ yX10_asItIs.cls ≠ "java/lang/invoke/VarHandle" ∧ (parseMethodDescriptor yX10_asItIs.desc).map (fun d => d.parameters.length) = some 0 := by decide +kernel
theorem qX10_drownedMore : yX10_drownedMore.cls = RX10 ∧ yX10_drownedMore.cls ≠ "java/lang/invoke/MethodHandle" ∧ yX10_drownedMore.cls ≠ "java/lang/invoke/VarHandle" ∧ (parseMethodDescriptor yX10_drownedMore.desc).map (fun d => d.parameters.length) = some 1 := by decide +kernel
theorem qX10_later : yX10_later.cls = RX10 ∧ yX10_later.cls ≠ "java/lang/invoke/MethodHandle" ∧ yX10_later.cls ≠ "java/lang/invoke/VarHandle" ∧ (parseMethodDescriptor yX10_later.desc).map (fun d => d.parameters.length) = some 2 := by decide +kernel
theorem qX10_allLater : yX10_allLater.cls = RX10 ∧ yX10_allLater.cls ≠ "java/lang/invoke/MethodHandle" ∧ yX10_allLater.cls ≠ "java/lang/invoke/VarHandle" ∧ (parseMethodDescriptor yX10_allLater.desc).map (fun d => d.parameters.length) = some 1 := by decide +kernel
theorem qX10_wetIn : yX10_wetIn.cls = RX10 ∧ yX10_wetIn.cls ≠ "java/lang/invoke/MethodHandle" ∧ yX10_wetIn.cls ≠ "java/lang/invoke/VarHandle" ∧ (parseMethodDescriptor yX10_wetIn.desc).map (fun d => d.parameters.length) = some 1 := by decide +kernel
theorem qX10_drownsIn : yX10_drownsIn.cls = RX10 ∧ yX10_drownsIn.cls ≠ "java/lang/invoke/MethodHandle" ∧ yX10_drownsIn.cls ≠ "java/lang/invoke/VarHandle" ∧ (parseMethodDescriptor yX10_drownsIn.desc).map (fun d => d.parameters.length) = some 1 := by decide +kernel
theorem qX10_dryIn : yX10_dryIn.cls = RX10 ∧ yX10_dryIn.cls ≠ "java/lang/invoke/MethodHandle" ∧ yX10_dryIn.cls ≠ "java/lang/invoke/VarHandle" ∧ (parseMethodDescriptor yX10_dryIn.desc).map (fun d => d.parameters.length) = some 0 := by decide +kernel
theorem qX10_fails : yX10_fails.cls = RX10 ∧ yX10_fails.cls ≠ "java/lang/invoke/MethodHandle" ∧ yX10_fails.cls ≠ "java/lang/invoke/VarHandle" ∧ (parseMethodDescriptor yX10_fails.desc).map (fun d => d.parameters.length) = some 1 := by decide +kernel
theorem qX10_worst : yX10_worst.cls = RX10 ∧ yX10_worst.cls ≠ "java/lang/invoke/MethodHandle" ∧ yX10_worst.cls ≠ "java/lang/invoke/VarHandle" ∧ (parseMethodDescriptor yX10_worst.desc).map (fun d => d.parameters.length) = some 0 := by decide +kernel
theorem qX10_sillFor : yX10_sillFor.cls = RX10 ∧ yX10_sillFor.cls ≠ "java/lang/invoke/MethodHandle" ∧ yX10_sillFor.cls ≠ "java/lang/invoke/VarHandle" ∧ (parseMethodDescriptor yX10_sillFor.desc).map (fun d => d.parameters.length) = some 1 := by decide +kernel
theorem qX10_through : yX10_through.cls = RX10 ∧ yX10_through.cls ≠ "java/lang/invoke/MethodHandle" ∧ yX10_through.cls ≠ "java/lang/invoke/VarHandle" ∧ (parseMethodDescriptor yX10_through.desc).map (fun d => d.parameters.length) = some 2 := by decide +kernel
theorem qX10_greatest : yX10_greatest.cls = RX10 ∧ yX10_greatest.cls ≠ "java/lang/invoke/MethodHandle" ∧ yX10_greatest.cls ≠ "java/lang/invoke/VarHandle" ∧ (parseMethodDescriptor yX10_greatest.desc).map (fun d => d.parameters.length) = some 2 := by decide +kernel
theorem qX10_firstDrowned : yX10_firstDrowned.cls = RX10 ∧ yX10_firstDrowned.cls ≠ "java/lang/invoke/MethodHandle" ∧ yX10_firstDrowned.cls ≠ "java/lang/invoke/VarHandle" ∧ (parseMethodDescriptor yX10_firstDrowned.desc).map (fun d => d.parameters.length) = some 0 := by decide +kernel
theorem qX10_bestHour : yX10_bestHour.cls = RX10 ∧ yX10_bestHour.cls ≠ "java/lang/invoke/MethodHandle" ∧ yX10_bestHour.cls ≠ "java/lang/invoke/VarHandle" ∧ (parseMethodDescriptor yX10_bestHour.desc).map (fun d => d.parameters.length) = some 1 := by decide +kernel
theorem qX10_pumpFor : yX10_pumpFor.cls = RX10 ∧ yX10_pumpFor.cls ≠ "java/lang/invoke/MethodHandle" ∧ yX10_pumpFor.cls ≠ "java/lang/invoke/VarHandle" ∧ (parseMethodDescriptor yX10_pumpFor.desc).map (fun d => d.parameters.length) = some 1 := by decide +kernel
theorem qX10_pumpAt : yX10_pumpAt.cls = RX10 ∧ yX10_pumpAt.cls ≠ "java/lang/invoke/MethodHandle" ∧ yX10_pumpAt.cls ≠ "java/lang/invoke/VarHandle" ∧ (parseMethodDescriptor yX10_pumpAt.desc).map (fun d => d.parameters.length) = some 1 := by decide +kernel
theorem qX10_twoWalls : yX10_twoWalls.cls = RX10 ∧ yX10_twoWalls.cls ≠ "java/lang/invoke/MethodHandle" ∧ yX10_twoWalls.cls ≠ "java/lang/invoke/VarHandle" ∧ (parseMethodDescriptor yX10_twoWalls.desc).map (fun d => d.parameters.length) = some 0 := by decide +kernel
theorem qX10_waterWalled : yX10_waterWalled.cls = RX10 ∧ yX10_waterWalled.cls ≠ "java/lang/invoke/MethodHandle" ∧ yX10_waterWalled.cls ≠ "java/lang/invoke/VarHandle" ∧ (parseMethodDescriptor yX10_waterWalled.desc).map (fun d => d.parameters.length) = some 1 := by decide +kernel
theorem qX10_gain : yX10_gain.cls = RX10 ∧ yX10_gain.cls ≠ "java/lang/invoke/MethodHandle" ∧ yX10_gain.cls ≠ "java/lang/invoke/VarHandle" ∧ (parseMethodDescriptor yX10_gain.desc).map (fun d => d.parameters.length) = some 1 := by decide +kernel
theorem qX10_bailFor : yX10_bailFor.cls = RX10 ∧ yX10_bailFor.cls ≠ "java/lang/invoke/MethodHandle" ∧ yX10_bailFor.cls ≠ "java/lang/invoke/VarHandle" ∧ (parseMethodDescriptor yX10_bailFor.desc).map (fun d => d.parameters.length) = some 2 := by decide +kernel
theorem qX10_besieged : yX10_besieged.cls = RX10 ∧ yX10_besieged.cls ≠ "java/lang/invoke/MethodHandle" ∧ yX10_besieged.cls ≠ "java/lang/invoke/VarHandle" ∧ (parseMethodDescriptor yX10_besieged.desc).map (fun d => d.parameters.length) = some 1 := by decide +kernel
theorem qX10_siege : yX10_siege.cls = RX10 ∧ yX10_siege.cls ≠ "java/lang/invoke/MethodHandle" ∧ yX10_siege.cls ≠ "java/lang/invoke/VarHandle" ∧ (parseMethodDescriptor yX10_siege.desc).map (fun d => d.parameters.length) = some 1 := by decide +kernel
theorem qX10_borne : yX10_borne.cls = RX10 ∧ yX10_borne.cls ≠ "java/lang/invoke/MethodHandle" ∧ yX10_borne.cls ≠ "java/lang/invoke/VarHandle" ∧ (parseMethodDescriptor yX10_borne.desc).map (fun d => d.parameters.length) = some 0 := by decide +kernel
theorem qX10_keep : yX10_keep.cls = RX10 ∧ yX10_keep.cls ≠ "java/lang/invoke/MethodHandle" ∧ yX10_keep.cls ≠ "java/lang/invoke/VarHandle" ∧ (parseMethodDescriptor yX10_keep.desc).map (fun d => d.parameters.length) = some 1 := by decide +kernel
theorem qX10_keepSet : yX10_keepSet.cls = RX10 ∧ yX10_keepSet.cls ≠ "java/lang/invoke/MethodHandle" ∧ yX10_keepSet.cls ≠ "java/lang/invoke/VarHandle" ∧ (parseMethodDescriptor yX10_keepSet.desc).map (fun d => d.parameters.length) = some 1 := by decide +kernel
theorem qX10_plan : yX10_plan.cls = RX10 ∧ yX10_plan.cls ≠ "java/lang/invoke/MethodHandle" ∧ yX10_plan.cls ≠ "java/lang/invoke/VarHandle" ∧ (parseMethodDescriptor yX10_plan.desc).map (fun d => d.parameters.length) = some 1 := by decide +kernel
theorem qX10_planned : yX10_planned.cls = RX10 ∧ yX10_planned.cls ≠ "java/lang/invoke/MethodHandle" ∧ yX10_planned.cls ≠ "java/lang/invoke/VarHandle" ∧ (parseMethodDescriptor yX10_planned.desc).map (fun d => d.parameters.length) = some 1 := by decide +kernel
theorem qX10_save : yX10_save.cls = RX10 ∧ yX10_save.cls ≠ "java/lang/invoke/MethodHandle" ∧ yX10_save.cls ≠ "java/lang/invoke/VarHandle" ∧ (parseMethodDescriptor yX10_save.desc).map (fun d => d.parameters.length) = some 1 := by decide +kernel
theorem qX10_saveSet : yX10_saveSet.cls = RX10 ∧ yX10_saveSet.cls ≠ "java/lang/invoke/MethodHandle" ∧ yX10_saveSet.cls ≠ "java/lang/invoke/VarHandle" ∧ (parseMethodDescriptor yX10_saveSet.desc).map (fun d => d.parameters.length) = some 1 := by decide +kernel
theorem qX10_isSetOfDoors : yX10_isSetOfDoors.cls = RX10 ∧ yX10_isSetOfDoors.cls ≠ "java/lang/invoke/MethodHandle" ∧ yX10_isSetOfDoors.cls ≠ "java/lang/invoke/VarHandle" ∧ (parseMethodDescriptor yX10_isSetOfDoors.desc).map (fun d => d.parameters.length) = some 1 := by decide +kernel
theorem qX10_damage : yX10_damage.cls = RX10 ∧ yX10_damage.cls ≠ "java/lang/invoke/MethodHandle" ∧ yX10_damage.cls ≠ "java/lang/invoke/VarHandle" ∧ (parseMethodDescriptor yX10_damage.desc).map (fun d => d.parameters.length) = some 1 := by decide +kernel
theorem qX10_guilt : yX10_guilt.cls = RX10 ∧ yX10_guilt.cls ≠ "java/lang/invoke/MethodHandle" ∧ yX10_guilt.cls ≠ "java/lang/invoke/VarHandle" ∧ (parseMethodDescriptor yX10_guilt.desc).map (fun d => d.parameters.length) = some 2 := by decide +kernel
theorem qX10_print : yX10_print.cls = RX10 ∧ yX10_print.cls ≠ "java/lang/invoke/MethodHandle" ∧ yX10_print.cls ≠ "java/lang/invoke/VarHandle" ∧ (parseMethodDescriptor yX10_print.desc).map (fun d => d.parameters.length) = some 2 := by decide +kernel
theorem qX10_suspects : yX10_suspects.cls = RX10 ∧ yX10_suspects.cls ≠ "java/lang/invoke/MethodHandle" ∧ yX10_suspects.cls ≠ "java/lang/invoke/VarHandle" ∧ (parseMethodDescriptor yX10_suspects.desc).map (fun d => d.parameters.length) = some 1 := by decide +kernel
theorem qX10_telling : yX10_telling.cls = RX10 ∧ yX10_telling.cls ≠ "java/lang/invoke/MethodHandle" ∧ yX10_telling.cls ≠ "java/lang/invoke/VarHandle" ∧ (parseMethodDescriptor yX10_telling.desc).map (fun d => d.parameters.length) = some 0 := by decide +kernel
theorem qX10_prints : yX10_prints.cls = RX10 ∧ yX10_prints.cls ≠ "java/lang/invoke/MethodHandle" ∧ yX10_prints.cls ≠ "java/lang/invoke/VarHandle" ∧ (parseMethodDescriptor yX10_prints.desc).map (fun d => d.parameters.length) = some 1 := by decide +kernel
theorem qX10_live : yX10_live.cls = RX10 ∧ yX10_live.cls ≠ "java/lang/invoke/MethodHandle" ∧ yX10_live.cls ≠ "java/lang/invoke/VarHandle" ∧ (parseMethodDescriptor yX10_live.desc).map (fun d => d.parameters.length) = some 1 := by decide +kernel
theorem qX10_lived : yX10_lived.cls = RX10 ∧ yX10_lived.cls ≠ "java/lang/invoke/MethodHandle" ∧ yX10_lived.cls ≠ "java/lang/invoke/VarHandle" ∧ (parseMethodDescriptor yX10_lived.desc).map (fun d => d.parameters.length) = some 1 := by decide +kernel
theorem qX10_mean : yX10_mean.cls = RX10 ∧ yX10_mean.cls ≠ "java/lang/invoke/MethodHandle" ∧ yX10_mean.cls ≠ "java/lang/invoke/VarHandle" ∧ (parseMethodDescriptor yX10_mean.desc).map (fun d => d.parameters.length) = some 2 := by decide +kernel
theorem qX10_mark : yX10_mark.cls = RX10 ∧ yX10_mark.cls ≠ "java/lang/invoke/MethodHandle" ∧ yX10_mark.cls ≠ "java/lang/invoke/VarHandle" ∧ (parseMethodDescriptor yX10_mark.desc).map (fun d => d.parameters.length) = some 0 := by decide +kernel
theorem qX10_undo : yX10_undo.cls = RX10 ∧ yX10_undo.cls ≠ "java/lang/invoke/MethodHandle" ∧ yX10_undo.cls ≠ "java/lang/invoke/VarHandle" ∧ (parseMethodDescriptor yX10_undo.desc).map (fun d => d.parameters.length) = some 0 := by decide +kernel
theorem qX10_indexIn : yX10_indexIn.cls ≠ "java/lang/invoke/MethodHandle" ∧ yX10_indexIn.cls ≠ "java/lang/invoke/VarHandle" ∧ (parseMethodDescriptor yX10_indexIn.desc).map (fun d => d.parameters.length) = some 3 := by decide +kernel
theorem qX11_plain : yX11_plain.cls = RX11 ∧ yX11_plain.cls ≠ "java/lang/invoke/MethodHandle" ∧ yX11_plain.cls ≠ "java/lang/invoke/VarHandle" ∧ (parseMethodDescriptor yX11_plain.desc).map (fun d => d.parameters.length) = some 1 := by decide +kernel
theorem qX11_status : yX11_status.cls = RX11 ∧ yX11_status.cls ≠ "java/lang/invoke/MethodHandle" ∧ yX11_status.cls ≠ "java/lang/invoke/VarHandle" ∧ (parseMethodDescriptor yX11_status.desc).map (fun d => d.parameters.length) = some 0 := by decide +kernel
theorem qX11_top : yX11_top.cls = RX11 ∧ yX11_top.cls ≠ "java/lang/invoke/MethodHandle" ∧ yX11_top.cls ≠ "java/lang/invoke/VarHandle" ∧ (parseMethodDescriptor yX11_top.desc).map (fun d => d.parameters.length) = some 0 := by decide +kernel
theorem qX11_bottom : yX11_bottom.cls = RX11 ∧ yX11_bottom.cls ≠ "java/lang/invoke/MethodHandle" ∧ yX11_bottom.cls ≠ "java/lang/invoke/VarHandle" ∧ (parseMethodDescriptor yX11_bottom.desc).map (fun d => d.parameters.length) = some 0 := by decide +kernel
theorem qX11_is : yX11_is.cls = RX11 ∧ yX11_is.cls ≠ "java/lang/invoke/MethodHandle" ∧ yX11_is.cls ≠ "java/lang/invoke/VarHandle" ∧ (parseMethodDescriptor yX11_is.desc).map (fun d => d.parameters.length) = some 1 := by decide +kernel
theorem qX11_refuse : yX11_refuse.cls = RX11 ∧ yX11_refuse.cls ≠ "java/lang/invoke/MethodHandle" ∧ yX11_refuse.cls ≠ "java/lang/invoke/VarHandle" ∧ (parseMethodDescriptor yX11_refuse.desc).map (fun d => d.parameters.length) = some 1 := by decide +kernel
theorem qX11_gives : yX11_gives.cls = RX11 ∧ yX11_gives.cls ≠ "java/lang/invoke/MethodHandle" ∧ yX11_gives.cls ≠ "java/lang/invoke/VarHandle" ∧ (parseMethodDescriptor yX11_gives.desc).map (fun d => d.parameters.length) = some 1 := by decide +kernel
theorem qX11_orNone : yX11_orNone.cls = RX11 ∧ yX11_orNone.cls ≠ "java/lang/invoke/MethodHandle" ∧ yX11_orNone.cls ≠ "java/lang/invoke/VarHandle" ∧ (parseMethodDescriptor yX11_orNone.desc).map (fun d => d.parameters.length) = some 1 := by decide +kernel
theorem qX11_tellsBy : yX11_tellsBy.cls = RX11 ∧ yX11_tellsBy.cls ≠ "java/lang/invoke/MethodHandle" ∧ yX11_tellsBy.cls ≠ "java/lang/invoke/VarHandle" ∧ (parseMethodDescriptor yX11_tellsBy.desc).map (fun d => d.parameters.length) = some 2 := by decide +kernel
theorem qX11_isTray : yX11_isTray.cls ≠ "java/lang/invoke/MethodHandle" ∧ yX11_isTray.cls ≠ "java/lang/invoke/VarHandle" ∧ (parseMethodDescriptor yX11_isTray.desc).map (fun d => d.parameters.length) = some 1 := by decide +kernel
theorem qX11_cut : yX11_cut.cls ≠ "java/lang/invoke/MethodHandle" ∧ yX11_cut.cls ≠ "java/lang/invoke/VarHandle" ∧ (parseMethodDescriptor yX11_cut.desc).map (fun d => d.parameters.length) = some 2 := by decide +kernel
theorem qX11_tray : yX11_tray.cls = RX11 ∧ yX11_tray.cls ≠ "java/lang/invoke/MethodHandle" ∧ yX11_tray.cls ≠ "java/lang/invoke/VarHandle" ∧ (parseMethodDescriptor yX11_tray.desc).map (fun d => d.parameters.length) = some 3 := by decide +kernel
theorem qX11_wrongPlace : yX11_wrongPlace.cls = RX11 ∧ yX11_wrongPlace.cls ≠ "java/lang/invoke/MethodHandle" ∧ yX11_wrongPlace.cls ≠ "java/lang/invoke/VarHandle" ∧ (parseMethodDescriptor yX11_wrongPlace.desc).map (fun d => d.parameters.length) = some 2 := by decide +kernel
theorem qX11_write : yX11_write.cls = RX11 ∧ yX11_write.cls ≠ "java/lang/invoke/MethodHandle" ∧ yX11_write.cls ≠ "java/lang/invoke/VarHandle" ∧ (parseMethodDescriptor yX11_write.desc).map (fun d => d.parameters.length) = some 3 := by decide +kernel
theorem qX11_read : yX11_read.cls = RX11 ∧ yX11_read.cls ≠ "java/lang/invoke/MethodHandle" ∧ yX11_read.cls ≠ "java/lang/invoke/VarHandle" ∧ (parseMethodDescriptor yX11_read.desc).map (fun d => d.parameters.length) = some 2 := by decide +kernel
theorem qX11_pour : yX11_pour.cls = RX11 ∧ yX11_pour.cls ≠ "java/lang/invoke/MethodHandle" ∧ yX11_pour.cls ≠ "java/lang/invoke/VarHandle" ∧ (parseMethodDescriptor yX11_pour.desc).map (fun d => d.parameters.length) = some 5 := by decide +kernel
theorem qX11_isFrom : yX11_isFrom.cls ≠ "java/lang/invoke/MethodHandle" ∧ yX11_isFrom.cls ≠ "java/lang/invoke/VarHandle" ∧ (parseMethodDescriptor yX11_isFrom.desc).map (fun d => d.parameters.length) = some 3 := by decide +kernel
theorem qX11_feed : yX11_feed.cls = RX11 ∧ yX11_feed.cls ≠ "java/lang/invoke/MethodHandle" ∧ yX11_feed.cls ≠ "java/lang/invoke/VarHandle" ∧ (parseMethodDescriptor yX11_feed.desc).map (fun d => d.parameters.length) = some 5 := by decide +kernel
theorem qX11_four : yX11_four.cls = RX11 ∧ yX11_four.cls ≠ "java/lang/invoke/MethodHandle" ∧ yX11_four.cls ≠ "java/lang/invoke/VarHandle" ∧ (parseMethodDescriptor yX11_four.desc).map (fun d => d.parameters.length) = some 1 := by decide +kernel
theorem qX11_byteAt : yX11_byteAt.cls = RX11 ∧ yX11_byteAt.cls ≠ "java/lang/invoke/MethodHandle" ∧ yX11_byteAt.cls ≠ "java/lang/invoke/VarHandle" ∧ (parseMethodDescriptor yX11_byteAt.desc).map (fun d => d.parameters.length) = some 1 := by decide +kernel
theorem qX11_isSmall : yX11_isSmall.cls ≠ "java/lang/invoke/MethodHandle" ∧ yX11_isSmall.cls ≠ "java/lang/invoke/VarHandle" ∧ (parseMethodDescriptor yX11_isSmall.desc).map (fun d => d.parameters.length) = some 1 := by decide +kernel
theorem qX11_isDigit : yX11_isDigit.cls ≠ "java/lang/invoke/MethodHandle" ∧ yX11_isDigit.cls ≠ "java/lang/invoke/VarHandle" ∧ (parseMethodDescriptor yX11_isDigit.desc).map (fun d => d.parameters.length) = some 1 := by decide +kernel
theorem qX11_ahead : yX11_ahead.cls = RX11 ∧ yX11_ahead.cls ≠ "java/lang/invoke/MethodHandle" ∧ yX11_ahead.cls ≠ "java/lang/invoke/VarHandle" ∧ (parseMethodDescriptor yX11_ahead.desc).map (fun d => d.parameters.length) = some 0 := by decide +kernel
theorem qX11_isSign : yX11_isSign.cls = RX11 ∧ yX11_isSign.cls ≠ "java/lang/invoke/MethodHandle" ∧ yX11_isSign.cls ≠ "java/lang/invoke/VarHandle" ∧ (parseMethodDescriptor yX11_isSign.desc).map (fun d => d.parameters.length) = some 1 := by decide +kernel
theorem qX11_inWords : yX11_inWords.cls = RX11 ∧ yX11_inWords.cls ≠ "java/lang/invoke/MethodHandle" ∧ yX11_inWords.cls ≠ "java/lang/invoke/VarHandle" ∧ (parseMethodDescriptor yX11_inWords.desc).map (fun d => d.parameters.length) = some 1 := by decide +kernel
theorem qX11_errs : yX11_errs.cls = RX11 ∧ yX11_errs.cls ≠ "java/lang/invoke/MethodHandle" ∧ yX11_errs.cls ≠ "java/lang/invoke/VarHandle" ∧ (parseMethodDescriptor yX11_errs.desc).map (fun d => d.parameters.length) = some 1 := by decide +kernel
theorem qX11_begins : yX11_begins.cls = RX11 ∧ yX11_begins.cls ≠ "java/lang/invoke/MethodHandle" ∧ yX11_begins.cls ≠ "java/lang/invoke/VarHandle" ∧ (parseMethodDescriptor yX11_begins.desc).map (fun d => d.parameters.length) = some 2 := by decide +kernel
theorem qX11_wantSign : yX11_wantSign.cls = RX11 ∧ yX11_wantSign.cls ≠ "java/lang/invoke/MethodHandle" ∧ yX11_wantSign.cls ≠ "java/lang/invoke/VarHandle" ∧ (parseMethodDescriptor yX11_wantSign.desc).map (fun d => d.parameters.length) = some 1 := by decide +kernel
theorem qX11_wantWord : yX11_wantWord.cls = RX11 ∧ yX11_wantWord.cls ≠ "java/lang/invoke/MethodHandle" ∧ yX11_wantWord.cls ≠ "java/lang/invoke/VarHandle" ∧ (parseMethodDescriptor yX11_wantWord.desc).map (fun d => d.parameters.length) = some 2 := by decide +kernel
theorem qX11_number : yX11_number.cls = RX11 ∧ yX11_number.cls ≠ "java/lang/invoke/MethodHandle" ∧ yX11_number.cls ≠ "java/lang/invoke/VarHandle" ∧ (parseMethodDescriptor yX11_number.desc).map (fun d => d.parameters.length) = some 3 := by decide +kernel
theorem qX11_isName : yX11_isName.cls = RX11 ∧ yX11_isName.cls ≠ "java/lang/invoke/MethodHandle" ∧ yX11_isName.cls ≠ "java/lang/invoke/VarHandle" ∧ (parseMethodDescriptor yX11_isName.desc).map (fun d => d.parameters.length) = some 1 := by decide +kernel
theorem qX11_nameHere : yX11_nameHere.cls = RX11 ∧ yX11_nameHere.cls ≠ "java/lang/invoke/MethodHandle" ∧ yX11_nameHere.cls ≠ "java/lang/invoke/VarHandle" ∧ (parseMethodDescriptor yX11_nameHere.desc).map (fun d => d.parameters.length) = some 0 := by decide +kernel
theorem qX11_findHere : yX11_findHere.cls = RX11 ∧ yX11_findHere.cls ≠ "java/lang/invoke/MethodHandle" ∧ yX11_findHere.cls ≠ "java/lang/invoke/VarHandle" ∧ (parseMethodDescriptor yX11_findHere.desc).map (fun d => d.parameters.length) = some 2 := by decide +kernel
theorem qX11_fault : yX11_fault.cls = RX11 ∧ yX11_fault.cls ≠ "java/lang/invoke/MethodHandle" ∧ yX11_fault.cls ≠ "java/lang/invoke/VarHandle" ∧ (parseMethodDescriptor yX11_fault.desc).map (fun d => d.parameters.length) = some 1 := by decide +kernel
theorem qX11_taken : yX11_taken.cls = RX11 ∧ yX11_taken.cls ≠ "java/lang/invoke/MethodHandle" ∧ yX11_taken.cls ≠ "java/lang/invoke/VarHandle" ∧ (parseMethodDescriptor yX11_taken.desc).map (fun d => d.parameters.length) = some 1 := by decide +kernel
theorem qX11_isThere : yX11_isThere.cls = RX11 ∧ yX11_isThere.cls ≠ "java/lang/invoke/MethodHandle" ∧ yX11_isThere.cls ≠ "java/lang/invoke/VarHandle" ∧ (parseMethodDescriptor yX11_isThere.desc).map (fun d => d.parameters.length) = some 1 := by decide +kernel
theorem qX11_newOne : yX11_newOne.cls = RX11 ∧ yX11_newOne.cls ≠ "java/lang/invoke/MethodHandle" ∧ yX11_newOne.cls ≠ "java/lang/invoke/VarHandle" ∧ (parseMethodDescriptor yX11_newOne.desc).map (fun d => d.parameters.length) = some 3 := by decide +kernel
theorem qX11_oldOne : yX11_oldOne.cls = RX11 ∧ yX11_oldOne.cls ≠ "java/lang/invoke/MethodHandle" ∧ yX11_oldOne.cls ≠ "java/lang/invoke/VarHandle" ∧ (parseMethodDescriptor yX11_oldOne.desc).map (fun d => d.parameters.length) = some 3 := by decide +kernel
theorem qX11_aRoom : yX11_aRoom.cls = RX11 ∧ yX11_aRoom.cls ≠ "java/lang/invoke/MethodHandle" ∧ yX11_aRoom.cls ≠ "java/lang/invoke/VarHandle" ∧ (parseMethodDescriptor yX11_aRoom.desc).map (fun d => d.parameters.length) = some 0 := by decide +kernel
theorem qX11_endTo : yX11_endTo.cls = RX11 ∧ yX11_endTo.cls ≠ "java/lang/invoke/MethodHandle" ∧ yX11_endTo.cls ≠ "java/lang/invoke/VarHandle" ∧ (parseMethodDescriptor yX11_endTo.desc).map (fun d => d.parameters.length) = some 1 := by decide +kernel
theorem qX11_aDoor : yX11_aDoor.cls = RX11 ∧ yX11_aDoor.cls ≠ "java/lang/invoke/MethodHandle" ∧ yX11_aDoor.cls ≠ "java/lang/invoke/VarHandle" ∧ (parseMethodDescriptor yX11_aDoor.desc).map (fun d => d.parameters.length) = some 0 := by decide +kernel
theorem qX11_landPart : yX11_landPart.cls = RX11 ∧ yX11_landPart.cls ≠ "java/lang/invoke/MethodHandle" ∧ yX11_landPart.cls ≠ "java/lang/invoke/VarHandle" ∧ (parseMethodDescriptor yX11_landPart.desc).map (fun d => d.parameters.length) = some 0 := by decide +kernel
theorem qX11_land : yX11_land.cls = RX11 ∧ yX11_land.cls ≠ "java/lang/invoke/MethodHandle" ∧ yX11_land.cls ≠ "java/lang/invoke/VarHandle" ∧ (parseMethodDescriptor yX11_land.desc).map (fun d => d.parameters.length) = some 1 := by decide +kernel
theorem qX11_roomTo : yX11_roomTo.cls = RX11 ∧ yX11_roomTo.cls ≠ "java/lang/invoke/MethodHandle" ∧ yX11_roomTo.cls ≠ "java/lang/invoke/VarHandle" ∧ (parseMethodDescriptor yX11_roomTo.desc).map (fun d => d.parameters.length) = some 1 := by decide +kernel
theorem qX11_doorTo : yX11_doorTo.cls = RX11 ∧ yX11_doorTo.cls ≠ "java/lang/invoke/MethodHandle" ∧ yX11_doorTo.cls ≠ "java/lang/invoke/VarHandle" ∧ (parseMethodDescriptor yX11_doorTo.desc).map (fun d => d.parameters.length) = some 1 := by decide +kernel
theorem qX11_test : yX11_test.cls = RX11 ∧ yX11_test.cls ≠ "java/lang/invoke/MethodHandle" ∧ yX11_test.cls ≠ "java/lang/invoke/VarHandle" ∧ (parseMethodDescriptor yX11_test.desc).map (fun d => d.parameters.length) = some 1 := by decide +kernel
theorem qX11_nightOrder : yX11_nightOrder.cls = RX11 ∧ yX11_nightOrder.cls ≠ "java/lang/invoke/MethodHandle" ∧ yX11_nightOrder.cls ≠ "java/lang/invoke/VarHandle" ∧ (parseMethodDescriptor yX11_nightOrder.desc).map (fun d => d.parameters.length) = some 2 := by decide +kernel
theorem qX11_nightStep : yX11_nightStep.cls = RX11 ∧ yX11_nightStep.cls ≠ "java/lang/invoke/MethodHandle" ∧ yX11_nightStep.cls ≠ "java/lang/invoke/VarHandle" ∧ (parseMethodDescriptor yX11_nightStep.desc).map (fun d => d.parameters.length) = some 0 := by decide +kernel
theorem qX11_nights : yX11_nights.cls = RX11 ∧ yX11_nights.cls ≠ "java/lang/invoke/MethodHandle" ∧ yX11_nights.cls ≠ "java/lang/invoke/VarHandle" ∧ (parseMethodDescriptor yX11_nights.desc).map (fun d => d.parameters.length) = some 1 := by decide +kernel
theorem qX11_roomRow : yX11_roomRow.cls ≠ "java/lang/invoke/MethodHandle" ∧ yX11_roomRow.cls ≠ "java/lang/invoke/VarHandle" ∧ (parseMethodDescriptor yX11_roomRow.desc).map (fun d => d.parameters.length) = some 1 := by decide +kernel
theorem qX11_doorRow : yX11_doorRow.cls ≠ "java/lang/invoke/MethodHandle" ∧ yX11_doorRow.cls ≠ "java/lang/invoke/VarHandle" ∧ (parseMethodDescriptor yX11_doorRow.desc).map (fun d => d.parameters.length) = some 1 := by decide +kernel
theorem qX11_isRoom : yX11_isRoom.cls = RX11 ∧ yX11_isRoom.cls ≠ "java/lang/invoke/MethodHandle" ∧ yX11_isRoom.cls ≠ "java/lang/invoke/VarHandle" ∧ (parseMethodDescriptor yX11_isRoom.desc).map (fun d => d.parameters.length) = some 1 := by decide +kernel
theorem qX11_isDoor : yX11_isDoor.cls = RX11 ∧ yX11_isDoor.cls ≠ "java/lang/invoke/MethodHandle" ∧ yX11_isDoor.cls ≠ "java/lang/invoke/VarHandle" ∧ (parseMethodDescriptor yX11_isDoor.desc).map (fun d => d.parameters.length) = some 1 := by decide +kernel
theorem qX11_isHour : yX11_isHour.cls ≠ "java/lang/invoke/MethodHandle" ∧ yX11_isHour.cls ≠ "java/lang/invoke/VarHandle" ∧ (parseMethodDescriptor yX11_isHour.desc).map (fun d => d.parameters.length) = some 1 := by decide +kernel
theorem qX11_isIn : yX11_isIn.cls = RX11 ∧ yX11_isIn.cls ≠ "java/lang/invoke/MethodHandle" ∧ yX11_isIn.cls ≠ "java/lang/invoke/VarHandle" ∧ (parseMethodDescriptor yX11_isIn.desc).map (fun d => d.parameters.length) = some 2 := by decide +kernel
theorem qX11_bits : yX11_bits.cls ≠ "java/lang/invoke/MethodHandle" ∧ yX11_bits.cls ≠ "java/lang/invoke/VarHandle" ∧ (parseMethodDescriptor yX11_bits.desc).map (fun d => d.parameters.length) = some 1 := by decide +kernel
theorem qX11_roomOf : yX11_roomOf.cls = RX11 ∧ yX11_roomOf.cls ≠ "java/lang/invoke/MethodHandle" ∧ yX11_roomOf.cls ≠ "java/lang/invoke/VarHandle" ∧ (parseMethodDescriptor yX11_roomOf.desc).map (fun d => d.parameters.length) = some 2 := by decide +kernel
theorem qX11_doorOf : yX11_doorOf.cls = RX11 ∧ yX11_doorOf.cls ≠ "java/lang/invoke/MethodHandle" ∧ yX11_doorOf.cls ≠ "java/lang/invoke/VarHandle" ∧ (parseMethodDescriptor yX11_doorOf.desc).map (fun d => d.parameters.length) = some 2 := by decide +kernel
theorem qX11_now : yX11_now.cls = RX11 ∧ yX11_now.cls ≠ "java/lang/invoke/MethodHandle" ∧ yX11_now.cls ≠ "java/lang/invoke/VarHandle" ∧ (parseMethodDescriptor yX11_now.desc).map (fun d => d.parameters.length) = some 0 := by decide +kernel
theorem qX11_depthOf : yX11_depthOf.cls = RX11 ∧ yX11_depthOf.cls ≠ "java/lang/invoke/MethodHandle" ∧ yX11_depthOf.cls ≠ "java/lang/invoke/VarHandle" ∧ (parseMethodDescriptor yX11_depthOf.desc).map (fun d => d.parameters.length) = some 1 := by decide +kernel
theorem qX11_surfaceOf : yX11_surfaceOf.cls = RX11 ∧ yX11_surfaceOf.cls ≠ "java/lang/invoke/MethodHandle" ∧ yX11_surfaceOf.cls ≠ "java/lang/invoke/VarHandle" ∧ (parseMethodDescriptor yX11_surfaceOf.desc).map (fun d => d.parameters.length) = some 1 := by decide +kernel
theorem qX11_isOpen : yX11_isOpen.cls = RX11 ∧ yX11_isOpen.cls ≠ "java/lang/invoke/MethodHandle" ∧ yX11_isOpen.cls ≠ "java/lang/invoke/VarHandle" ∧ (parseMethodDescriptor yX11_isOpen.desc).map (fun d => d.parameters.length) = some 1 := by decide +kernel
theorem qX11_driveOf : yX11_driveOf.cls = RX11 ∧ yX11_driveOf.cls ≠ "java/lang/invoke/MethodHandle" ∧ yX11_driveOf.cls ≠ "java/lang/invoke/VarHandle" ∧ (parseMethodDescriptor yX11_driveOf.desc).map (fun d => d.parameters.length) = some 1 := by decide +kernel
theorem qX11_flowBy : yX11_flowBy.cls = RX11 ∧ yX11_flowBy.cls ≠ "java/lang/invoke/MethodHandle" ∧ yX11_flowBy.cls ≠ "java/lang/invoke/VarHandle" ∧ (parseMethodDescriptor yX11_flowBy.desc).map (fun d => d.parameters.length) = some 2 := by decide +kernel
theorem qX11_flowOf : yX11_flowOf.cls = RX11 ∧ yX11_flowOf.cls ≠ "java/lang/invoke/MethodHandle" ∧ yX11_flowOf.cls ≠ "java/lang/invoke/VarHandle" ∧ (parseMethodDescriptor yX11_flowOf.desc).map (fun d => d.parameters.length) = some 1 := by decide +kernel
theorem qX11_allWater : yX11_allWater.cls = RX11 ∧ yX11_allWater.cls ≠ "java/lang/invoke/MethodHandle" ∧ yX11_allWater.cls ≠ "java/lang/invoke/VarHandle" ∧ (parseMethodDescriptor yX11_allWater.desc).map (fun d => d.parameters.length) = some 0 := by decide +kernel
theorem qX11_setOf : yX11_setOf.cls = RX11 ∧ yX11_setOf.cls ≠ "java/lang/invoke/MethodHandle" ∧ yX11_setOf.cls ≠ "java/lang/invoke/VarHandle" ∧ (parseMethodDescriptor yX11_setOf.desc).map (fun d => d.parameters.length) = some 1 := by decide +kernel
theorem qX11_told : yX11_told.cls = RX11 ∧ yX11_told.cls ≠ "java/lang/invoke/MethodHandle" ∧ yX11_told.cls ≠ "java/lang/invoke/VarHandle" ∧ (parseMethodDescriptor yX11_told.desc).map (fun d => d.parameters.length) = some 1 := by decide +kernel
theorem qX11_room : yX11_room.cls = RX11 ∧ yX11_room.cls ≠ "java/lang/invoke/MethodHandle" ∧ yX11_room.cls ≠ "java/lang/invoke/VarHandle" ∧ (parseMethodDescriptor yX11_room.desc).map (fun d => d.parameters.length) = some 2 := by decide +kernel
theorem qX11_door : yX11_door.cls = RX11 ∧ yX11_door.cls ≠ "java/lang/invoke/MethodHandle" ∧ yX11_door.cls ≠ "java/lang/invoke/VarHandle" ∧ (parseMethodDescriptor yX11_door.desc).map (fun d => d.parameters.length) = some 2 := by decide +kernel
theorem qX11_isErrand : yX11_isErrand.cls = RX11 ∧ yX11_isErrand.cls ≠ "java/lang/invoke/MethodHandle" ∧ yX11_isErrand.cls ≠ "java/lang/invoke/VarHandle" ∧ (parseMethodDescriptor yX11_isErrand.desc).map (fun d => d.parameters.length) = some 1 := by decide +kernel
theorem qX11_errand : yX11_errand.cls = RX11 ∧ yX11_errand.cls ≠ "java/lang/invoke/MethodHandle" ∧ yX11_errand.cls ≠ "java/lang/invoke/VarHandle" ∧ (parseMethodDescriptor yX11_errand.desc).map (fun d => d.parameters.length) = some 2 := by decide +kernel
theorem qX11_tide : yX11_tide.cls = RX11 ∧ yX11_tide.cls ≠ "java/lang/invoke/MethodHandle" ∧ yX11_tide.cls ≠ "java/lang/invoke/VarHandle" ∧ (parseMethodDescriptor yX11_tide.desc).map (fun d => d.parameters.length) = some 1 := by decide +kernel
theorem qX11_drive : yX11_drive.cls = RX11 ∧ yX11_drive.cls ≠ "java/lang/invoke/MethodHandle" ∧ yX11_drive.cls ≠ "java/lang/invoke/VarHandle" ∧ (parseMethodDescriptor yX11_drive.desc).map (fun d => d.parameters.length) = some 1 := by decide +kernel
theorem qX11_flow : yX11_flow.cls = RX11 ∧ yX11_flow.cls ≠ "java/lang/invoke/MethodHandle" ∧ yX11_flow.cls ≠ "java/lang/invoke/VarHandle" ∧ (parseMethodDescriptor yX11_flow.desc).map (fun d => d.parameters.length) = some 1 := by decide +kernel
theorem qX11_flowOpen : yX11_flowOpen.cls = RX11 ∧ yX11_flowOpen.cls ≠ "java/lang/invoke/MethodHandle" ∧ yX11_flowOpen.cls ≠ "java/lang/invoke/VarHandle" ∧ (parseMethodDescriptor yX11_flowOpen.desc).map (fun d => d.parameters.length) = some 1 := by decide +kernel
theorem qX11_deepest : yX11_deepest.cls = RX11 ∧ yX11_deepest.cls ≠ "java/lang/invoke/MethodHandle" ∧ yX11_deepest.cls ≠ "java/lang/invoke/VarHandle" ∧ (parseMethodDescriptor yX11_deepest.desc).map (fun d => d.parameters.length) = some 0 := by decide +kernel
theorem qX11_busiest : yX11_busiest.cls = RX11 ∧ yX11_busiest.cls ≠ "java/lang/invoke/MethodHandle" ∧ yX11_busiest.cls ≠ "java/lang/invoke/VarHandle" ∧ (parseMethodDescriptor yX11_busiest.desc).map (fun d => d.parameters.length) = some 0 := by decide +kernel
theorem qX11_spare : yX11_spare.cls = RX11 ∧ yX11_spare.cls ≠ "java/lang/invoke/MethodHandle" ∧ yX11_spare.cls ≠ "java/lang/invoke/VarHandle" ∧ (parseMethodDescriptor yX11_spare.desc).map (fun d => d.parameters.length) = some 1 := by decide +kernel
theorem qX11_low : yX11_low.cls = RX11 ∧ yX11_low.cls ≠ "java/lang/invoke/MethodHandle" ∧ yX11_low.cls ≠ "java/lang/invoke/VarHandle" ∧ (parseMethodDescriptor yX11_low.desc).map (fun d => d.parameters.length) = some 0 := by decide +kernel
theorem qX11_high : yX11_high.cls = RX11 ∧ yX11_high.cls ≠ "java/lang/invoke/MethodHandle" ∧ yX11_high.cls ≠ "java/lang/invoke/VarHandle" ∧ (parseMethodDescriptor yX11_high.desc).map (fun d => d.parameters.length) = some 1 := by decide +kernel
theorem qX11_linkedFrom : yX11_linkedFrom.cls = RX11 ∧ yX11_linkedFrom.cls ≠ "java/lang/invoke/MethodHandle" ∧ yX11_linkedFrom.cls ≠ "java/lang/invoke/VarHandle" ∧ (parseMethodDescriptor yX11_linkedFrom.desc).map (fun d => d.parameters.length) = some 3 := by decide +kernel
theorem qX11_linked : yX11_linked.cls = RX11 ∧ yX11_linked.cls ≠ "java/lang/invoke/MethodHandle" ∧ yX11_linked.cls ≠ "java/lang/invoke/VarHandle" ∧ (parseMethodDescriptor yX11_linked.desc).map (fun d => d.parameters.length) = some 1 := by decide +kernel
theorem qX11_pours : yX11_pours.cls = RX11 ∧ yX11_pours.cls ≠ "java/lang/invoke/MethodHandle" ∧ yX11_pours.cls ≠ "java/lang/invoke/VarHandle" ∧ (parseMethodDescriptor yX11_pours.desc).map (fun d => d.parameters.length) = some 2 := by decide +kernel
theorem qX11_goesBy : yX11_goesBy.cls = RX11 ∧ yX11_goesBy.cls ≠ "java/lang/invoke/MethodHandle" ∧ yX11_goesBy.cls ≠ "java/lang/invoke/VarHandle" ∧ (parseMethodDescriptor yX11_goesBy.desc).map (fun d => d.parameters.length) = some 0 := by decide +kernel
theorem qX11_goes : yX11_goes.cls = RX11 ∧ yX11_goes.cls ≠ "java/lang/invoke/MethodHandle" ∧ yX11_goes.cls ≠ "java/lang/invoke/VarHandle" ∧ (parseMethodDescriptor yX11_goes.desc).map (fun d => d.parameters.length) = some 1 := by decide +kernel
theorem qX11_hour : yX11_hour.cls = RX11 ∧ yX11_hour.cls ≠ "java/lang/invoke/MethodHandle" ∧ yX11_hour.cls ≠ "java/lang/invoke/VarHandle" ∧ (parseMethodDescriptor yX11_hour.desc).map (fun d => d.parameters.length) = some 1 := by decide +kernel
theorem qX11_turns : yX11_turns.cls = RX11 ∧ yX11_turns.cls ≠ "java/lang/invoke/MethodHandle" ∧ yX11_turns.cls ≠ "java/lang/invoke/VarHandle" ∧ (parseMethodDescriptor yX11_turns.desc).map (fun d => d.parameters.length) = some 3 := by decide +kernel
theorem qX11_hold : yX11_hold.cls = RX11 ∧ yX11_hold.cls ≠ "java/lang/invoke/MethodHandle" ∧ yX11_hold.cls ≠ "java/lang/invoke/VarHandle" ∧ (parseMethodDescriptor yX11_hold.desc).map (fun d => d.parameters.length) = some 2 := by decide +kernel
theorem qX11_wall : yX11_wall.cls = RX11 ∧ yX11_wall.cls ≠ "java/lang/invoke/MethodHandle" ∧ yX11_wall.cls ≠ "java/lang/invoke/VarHandle" ∧ (parseMethodDescriptor yX11_wall.desc).map (fun d => d.parameters.length) = some 2 := by decide +kernel
theorem qX11_bails : yX11_bails.cls = RX11 ∧ yX11_bails.cls ≠ "java/lang/invoke/MethodHandle" ∧ yX11_bails.cls ≠ "java/lang/invoke/VarHandle" ∧ (parseMethodDescriptor yX11_bails.desc).map (fun d => d.parameters.length) = some 2 := by decide +kernel
theorem qX11_bail : yX11_bail.cls = RX11 ∧ yX11_bail.cls ≠ "java/lang/invoke/MethodHandle" ∧ yX11_bail.cls ≠ "java/lang/invoke/VarHandle" ∧ (parseMethodDescriptor yX11_bail.desc).map (fun d => d.parameters.length) = some 2 := by decide +kernel
theorem qX11_wipes : yX11_wipes.cls = RX11 ∧ yX11_wipes.cls ≠ "java/lang/invoke/MethodHandle" ∧ yX11_wipes.cls ≠ "java/lang/invoke/VarHandle" ∧ (parseMethodDescriptor yX11_wipes.desc).map (fun d => d.parameters.length) = some 0 := by decide +kernel
theorem qX11_wipe : yX11_wipe.cls = RX11 ∧ yX11_wipe.cls ≠ "java/lang/invoke/MethodHandle" ∧ yX11_wipe.cls ≠ "java/lang/invoke/VarHandle" ∧ (parseMethodDescriptor yX11_wipe.desc).map (fun d => d.parameters.length) = some 0 := by decide +kernel
theorem qX11_rota : yX11_rota.cls = RX11 ∧ yX11_rota.cls ≠ "java/lang/invoke/MethodHandle" ∧ yX11_rota.cls ≠ "java/lang/invoke/VarHandle" ∧ (parseMethodDescriptor yX11_rota.desc).map (fun d => d.parameters.length) = some 3 := by decide +kernel
theorem qX11_moon : yX11_moon.cls = RX11 ∧ yX11_moon.cls ≠ "java/lang/invoke/MethodHandle" ∧ yX11_moon.cls ≠ "java/lang/invoke/VarHandle" ∧ (parseMethodDescriptor yX11_moon.desc).map (fun d => d.parameters.length) = some 2 := by decide +kernel
theorem qX11_pump : yX11_pump.cls = RX11 ∧ yX11_pump.cls ≠ "java/lang/invoke/MethodHandle" ∧ yX11_pump.cls ≠ "java/lang/invoke/VarHandle" ∧ (parseMethodDescriptor yX11_pump.desc).map (fun d => d.parameters.length) = some 2 := by decide +kernel
theorem qX11_raise : yX11_raise.cls = RX11 ∧ yX11_raise.cls ≠ "java/lang/invoke/MethodHandle" ∧ yX11_raise.cls ≠ "java/lang/invoke/VarHandle" ∧ (parseMethodDescriptor yX11_raise.desc).map (fun d => d.parameters.length) = some 2 := by decide +kernel
theorem qX11_build : yX11_build.cls = RX11 ∧ yX11_build.cls ≠ "java/lang/invoke/MethodHandle" ∧ yX11_build.cls ≠ "java/lang/invoke/VarHandle" ∧ (parseMethodDescriptor yX11_build.desc).map (fun d => d.parameters.length) = some 1 := by decide +kernel
theorem qX11_keeps : yX11_keeps.cls = RX11 ∧ yX11_keeps.cls ≠ "java/lang/invoke/MethodHandle" ∧ yX11_keeps.cls ≠ "java/lang/invoke/VarHandle" ∧ (parseMethodDescriptor yX11_keeps.desc).map (fun d => d.parameters.length) = some 1 := by decide +kernel
theorem qX11_restores : yX11_restores.cls = RX11 ∧ yX11_restores.cls ≠ "java/lang/invoke/MethodHandle" ∧ yX11_restores.cls ≠ "java/lang/invoke/VarHandle" ∧ (parseMethodDescriptor yX11_restores.desc).map (fun d => d.parameters.length) = some 1 := by decide +kernel
theorem qX11_isSpan : yX11_isSpan.cls ≠ "java/lang/invoke/MethodHandle" ∧ yX11_isSpan.cls ≠ "java/lang/invoke/VarHandle" ∧ (parseMethodDescriptor yX11_isSpan.desc).map (fun d => d.parameters.length) = some 1 := by decide +kernel
theorem qX11_waterIn : yX11_waterIn.cls = RX11 ∧ yX11_waterIn.cls ≠ "java/lang/invoke/MethodHandle" ∧ yX11_waterIn.cls ≠ "java/lang/invoke/VarHandle" ∧ (parseMethodDescriptor yX11_waterIn.desc).map (fun d => d.parameters.length) = some 2 := by decide +kernel
theorem qX11_later : yX11_later.cls = RX11 ∧ yX11_later.cls ≠ "java/lang/invoke/MethodHandle" ∧ yX11_later.cls ≠ "java/lang/invoke/VarHandle" ∧ (parseMethodDescriptor yX11_later.desc).map (fun d => d.parameters.length) = some 2 := by decide +kernel
theorem qX11_allLater : yX11_allLater.cls = RX11 ∧ yX11_allLater.cls ≠ "java/lang/invoke/MethodHandle" ∧ yX11_allLater.cls ≠ "java/lang/invoke/VarHandle" ∧ (parseMethodDescriptor yX11_allLater.desc).map (fun d => d.parameters.length) = some 1 := by decide +kernel
theorem qX11_hoursTill : yX11_hoursTill.cls = RX11 ∧ yX11_hoursTill.cls ≠ "java/lang/invoke/MethodHandle" ∧ yX11_hoursTill.cls ≠ "java/lang/invoke/VarHandle" ∧ (parseMethodDescriptor yX11_hoursTill.desc).map (fun d => d.parameters.length) = some 2 := by decide +kernel
theorem qX11_wetIn : yX11_wetIn.cls = RX11 ∧ yX11_wetIn.cls ≠ "java/lang/invoke/MethodHandle" ∧ yX11_wetIn.cls ≠ "java/lang/invoke/VarHandle" ∧ (parseMethodDescriptor yX11_wetIn.desc).map (fun d => d.parameters.length) = some 1 := by decide +kernel
theorem qX11_drownsIn : yX11_drownsIn.cls = RX11 ∧ yX11_drownsIn.cls ≠ "java/lang/invoke/MethodHandle" ∧ yX11_drownsIn.cls ≠ "java/lang/invoke/VarHandle" ∧ (parseMethodDescriptor yX11_drownsIn.desc).map (fun d => d.parameters.length) = some 1 := by decide +kernel
theorem qX11_dryIn : yX11_dryIn.cls = RX11 ∧ yX11_dryIn.cls ≠ "java/lang/invoke/MethodHandle" ∧ yX11_dryIn.cls ≠ "java/lang/invoke/VarHandle" ∧ (parseMethodDescriptor yX11_dryIn.desc).map (fun d => d.parameters.length) = some 0 := by decide +kernel
theorem qX11_triesOpen : yX11_triesOpen.cls = RX11 ∧ yX11_triesOpen.cls ≠ "java/lang/invoke/MethodHandle" ∧ yX11_triesOpen.cls ≠ "java/lang/invoke/VarHandle" ∧ (parseMethodDescriptor yX11_triesOpen.desc).map (fun d => d.parameters.length) = some 2 := by decide +kernel
theorem qX11_fails : yX11_fails.cls = RX11 ∧ yX11_fails.cls ≠ "java/lang/invoke/MethodHandle" ∧ yX11_fails.cls ≠ "java/lang/invoke/VarHandle" ∧ (parseMethodDescriptor yX11_fails.desc).map (fun d => d.parameters.length) = some 1 := by decide +kernel
theorem qX11_worst : yX11_worst.cls = RX11 ∧ yX11_worst.cls ≠ "java/lang/invoke/MethodHandle" ∧ yX11_worst.cls ≠ "java/lang/invoke/VarHandle" ∧ (parseMethodDescriptor yX11_worst.desc).map (fun d => d.parameters.length) = some 0 := by decide +kernel
theorem qX11_sillFor : yX11_sillFor.cls = RX11 ∧ yX11_sillFor.cls ≠ "java/lang/invoke/MethodHandle" ∧ yX11_sillFor.cls ≠ "java/lang/invoke/VarHandle" ∧ (parseMethodDescriptor yX11_sillFor.desc).map (fun d => d.parameters.length) = some 1 := by decide +kernel
theorem qX11_through : yX11_through.cls = RX11 ∧ yX11_through.cls ≠ "java/lang/invoke/MethodHandle" ∧ yX11_through.cls ≠ "java/lang/invoke/VarHandle" ∧ (parseMethodDescriptor yX11_through.desc).map (fun d => d.parameters.length) = some 2 := by decide +kernel
theorem qX11_greatest : yX11_greatest.cls = RX11 ∧ yX11_greatest.cls ≠ "java/lang/invoke/MethodHandle" ∧ yX11_greatest.cls ≠ "java/lang/invoke/VarHandle" ∧ (parseMethodDescriptor yX11_greatest.desc).map (fun d => d.parameters.length) = some 2 := by decide +kernel
theorem qX11_firstDrowned : yX11_firstDrowned.cls = RX11 ∧ yX11_firstDrowned.cls ≠ "java/lang/invoke/MethodHandle" ∧ yX11_firstDrowned.cls ≠ "java/lang/invoke/VarHandle" ∧ (parseMethodDescriptor yX11_firstDrowned.desc).map (fun d => d.parameters.length) = some 0 := by decide +kernel
theorem qX11_bestHour : yX11_bestHour.cls = RX11 ∧ yX11_bestHour.cls ≠ "java/lang/invoke/MethodHandle" ∧ yX11_bestHour.cls ≠ "java/lang/invoke/VarHandle" ∧ (parseMethodDescriptor yX11_bestHour.desc).map (fun d => d.parameters.length) = some 1 := by decide +kernel
theorem qX11_pumpFor : yX11_pumpFor.cls = RX11 ∧ yX11_pumpFor.cls ≠ "java/lang/invoke/MethodHandle" ∧ yX11_pumpFor.cls ≠ "java/lang/invoke/VarHandle" ∧ (parseMethodDescriptor yX11_pumpFor.desc).map (fun d => d.parameters.length) = some 1 := by decide +kernel
theorem qX11_pumpAt : yX11_pumpAt.cls = RX11 ∧ yX11_pumpAt.cls ≠ "java/lang/invoke/MethodHandle" ∧ yX11_pumpAt.cls ≠ "java/lang/invoke/VarHandle" ∧ (parseMethodDescriptor yX11_pumpAt.desc).map (fun d => d.parameters.length) = some 1 := by decide +kernel
theorem qX11_waterWalled : yX11_waterWalled.cls = RX11 ∧ yX11_waterWalled.cls ≠ "java/lang/invoke/MethodHandle" ∧ yX11_waterWalled.cls ≠ "java/lang/invoke/VarHandle" ∧ (parseMethodDescriptor yX11_waterWalled.desc).map (fun d => d.parameters.length) = some 2 := by decide +kernel
theorem qX11_twoWalls : yX11_twoWalls.cls = RX11 ∧ yX11_twoWalls.cls ≠ "java/lang/invoke/MethodHandle" ∧ yX11_twoWalls.cls ≠ "java/lang/invoke/VarHandle" ∧ (parseMethodDescriptor yX11_twoWalls.desc).map (fun d => d.parameters.length) = some 0 := by decide +kernel
theorem qX11_gain : yX11_gain.cls = RX11 ∧ yX11_gain.cls ≠ "java/lang/invoke/MethodHandle" ∧ yX11_gain.cls ≠ "java/lang/invoke/VarHandle" ∧ (parseMethodDescriptor yX11_gain.desc).map (fun d => d.parameters.length) = some 1 := by decide +kernel
theorem qX11_bailFor : yX11_bailFor.cls = RX11 ∧ yX11_bailFor.cls ≠ "java/lang/invoke/MethodHandle" ∧ yX11_bailFor.cls ≠ "java/lang/invoke/VarHandle" ∧ (parseMethodDescriptor yX11_bailFor.desc).map (fun d => d.parameters.length) = some 2 := by decide +kernel
theorem qX11_siegeOf : yX11_siegeOf.cls = RX11 ∧ yX11_siegeOf.cls ≠ "java/lang/invoke/MethodHandle" ∧ yX11_siegeOf.cls ≠ "java/lang/invoke/VarHandle" ∧ (parseMethodDescriptor yX11_siegeOf.desc).map (fun d => d.parameters.length) = some 1 := by decide +kernel
theorem qX11_siege : yX11_siege.cls = RX11 ∧ yX11_siege.cls ≠ "java/lang/invoke/MethodHandle" ∧ yX11_siege.cls ≠ "java/lang/invoke/VarHandle" ∧ (parseMethodDescriptor yX11_siege.desc).map (fun d => d.parameters.length) = some 1 := by decide +kernel
theorem qX11_borne : yX11_borne.cls = RX11 ∧ yX11_borne.cls ≠ "java/lang/invoke/MethodHandle" ∧ yX11_borne.cls ≠ "java/lang/invoke/VarHandle" ∧ (parseMethodDescriptor yX11_borne.desc).map (fun d => d.parameters.length) = some 0 := by decide +kernel
theorem qX11_keepOf : yX11_keepOf.cls = RX11 ∧ yX11_keepOf.cls ≠ "java/lang/invoke/MethodHandle" ∧ yX11_keepOf.cls ≠ "java/lang/invoke/VarHandle" ∧ (parseMethodDescriptor yX11_keepOf.desc).map (fun d => d.parameters.length) = some 1 := by decide +kernel
theorem qX11_keep : yX11_keep.cls = RX11 ∧ yX11_keep.cls ≠ "java/lang/invoke/MethodHandle" ∧ yX11_keep.cls ≠ "java/lang/invoke/VarHandle" ∧ (parseMethodDescriptor yX11_keep.desc).map (fun d => d.parameters.length) = some 1 := by decide +kernel
theorem qX11_keepSet : yX11_keepSet.cls = RX11 ∧ yX11_keepSet.cls ≠ "java/lang/invoke/MethodHandle" ∧ yX11_keepSet.cls ≠ "java/lang/invoke/VarHandle" ∧ (parseMethodDescriptor yX11_keepSet.desc).map (fun d => d.parameters.length) = some 1 := by decide +kernel
theorem qX11_errandOf : yX11_errandOf.cls = RX11 ∧ yX11_errandOf.cls ≠ "java/lang/invoke/MethodHandle" ∧ yX11_errandOf.cls ≠ "java/lang/invoke/VarHandle" ∧ (parseMethodDescriptor yX11_errandOf.desc).map (fun d => d.parameters.length) = some 2 := by decide +kernel
theorem qX11_hoursOn : yX11_hoursOn.cls = RX11 ∧ yX11_hoursOn.cls ≠ "java/lang/invoke/MethodHandle" ∧ yX11_hoursOn.cls ≠ "java/lang/invoke/VarHandle" ∧ (parseMethodDescriptor yX11_hoursOn.desc).map (fun d => d.parameters.length) = some 0 := by decide +kernel
theorem qX11_plans : yX11_plans.cls = RX11 ∧ yX11_plans.cls ≠ "java/lang/invoke/MethodHandle" ∧ yX11_plans.cls ≠ "java/lang/invoke/VarHandle" ∧ (parseMethodDescriptor yX11_plans.desc).map (fun d => d.parameters.length) = some 0 := by decide +kernel
theorem qX11_plan : yX11_plan.cls = RX11 ∧ yX11_plan.cls ≠ "java/lang/invoke/MethodHandle" ∧ yX11_plan.cls ≠ "java/lang/invoke/VarHandle" ∧ (parseMethodDescriptor yX11_plan.desc).map (fun d => d.parameters.length) = some 1 := by decide +kernel
theorem qX11_planned : yX11_planned.cls = RX11 ∧ yX11_planned.cls ≠ "java/lang/invoke/MethodHandle" ∧ yX11_planned.cls ≠ "java/lang/invoke/VarHandle" ∧ (parseMethodDescriptor yX11_planned.desc).map (fun d => d.parameters.length) = some 1 := by decide +kernel
theorem qX11_saveOf : yX11_saveOf.cls = RX11 ∧ yX11_saveOf.cls ≠ "java/lang/invoke/MethodHandle" ∧ yX11_saveOf.cls ≠ "java/lang/invoke/VarHandle" ∧ (parseMethodDescriptor yX11_saveOf.desc).map (fun d => d.parameters.length) = some 1 := by decide +kernel
theorem qX11_save : yX11_save.cls = RX11 ∧ yX11_save.cls ≠ "java/lang/invoke/MethodHandle" ∧ yX11_save.cls ≠ "java/lang/invoke/VarHandle" ∧ (parseMethodDescriptor yX11_save.desc).map (fun d => d.parameters.length) = some 1 := by decide +kernel
theorem qX11_saveSet : yX11_saveSet.cls = RX11 ∧ yX11_saveSet.cls ≠ "java/lang/invoke/MethodHandle" ∧ yX11_saveSet.cls ≠ "java/lang/invoke/VarHandle" ∧ (parseMethodDescriptor yX11_saveSet.desc).map (fun d => d.parameters.length) = some 1 := by decide +kernel
theorem qX11_damageOf : yX11_damageOf.cls = RX11 ∧ yX11_damageOf.cls ≠ "java/lang/invoke/MethodHandle" ∧ yX11_damageOf.cls ≠ "java/lang/invoke/VarHandle" ∧ (parseMethodDescriptor yX11_damageOf.desc).map (fun d => d.parameters.length) = some 1 := by decide +kernel
theorem qX11_isSet : yX11_isSet.cls = RX11 ∧ yX11_isSet.cls ≠ "java/lang/invoke/MethodHandle" ∧ yX11_isSet.cls ≠ "java/lang/invoke/VarHandle" ∧ (parseMethodDescriptor yX11_isSet.desc).map (fun d => d.parameters.length) = some 1 := by decide +kernel
theorem qX11_damage : yX11_damage.cls = RX11 ∧ yX11_damage.cls ≠ "java/lang/invoke/MethodHandle" ∧ yX11_damage.cls ≠ "java/lang/invoke/VarHandle" ∧ (parseMethodDescriptor yX11_damage.desc).map (fun d => d.parameters.length) = some 1 := by decide +kernel
theorem qX11_orders : yX11_orders.cls ≠ "java/lang/invoke/MethodHandle" ∧ yX11_orders.cls ≠ "java/lang/invoke/VarHandle" ∧ (parseMethodDescriptor yX11_orders.desc).map (fun d => d.parameters.length) = some 1 := by decide +kernel
theorem qX11_guilt : yX11_guilt.cls = RX11 ∧ yX11_guilt.cls ≠ "java/lang/invoke/MethodHandle" ∧ yX11_guilt.cls ≠ "java/lang/invoke/VarHandle" ∧ (parseMethodDescriptor yX11_guilt.desc).map (fun d => d.parameters.length) = some 2 := by decide +kernel
theorem qX11_laysPrint : yX11_laysPrint.cls = RX11 ∧ yX11_laysPrint.cls ≠ "java/lang/invoke/MethodHandle" ∧ yX11_laysPrint.cls ≠ "java/lang/invoke/VarHandle" ∧ (parseMethodDescriptor yX11_laysPrint.desc).map (fun d => d.parameters.length) = some 1 := by decide +kernel
theorem qX11_wrongPrint : yX11_wrongPrint.cls = RX11 ∧ yX11_wrongPrint.cls ≠ "java/lang/invoke/MethodHandle" ∧ yX11_wrongPrint.cls ≠ "java/lang/invoke/VarHandle" ∧ (parseMethodDescriptor yX11_wrongPrint.desc).map (fun d => d.parameters.length) = some 1 := by decide +kernel
theorem qX11_print : yX11_print.cls = RX11 ∧ yX11_print.cls ≠ "java/lang/invoke/MethodHandle" ∧ yX11_print.cls ≠ "java/lang/invoke/VarHandle" ∧ (parseMethodDescriptor yX11_print.desc).map (fun d => d.parameters.length) = some 2 := by decide +kernel
theorem qX11_suspects : yX11_suspects.cls = RX11 ∧ yX11_suspects.cls ≠ "java/lang/invoke/MethodHandle" ∧ yX11_suspects.cls ≠ "java/lang/invoke/VarHandle" ∧ (parseMethodDescriptor yX11_suspects.desc).map (fun d => d.parameters.length) = some 1 := by decide +kernel
theorem qX11_printsOf : yX11_printsOf.cls = RX11 ∧ yX11_printsOf.cls ≠ "java/lang/invoke/MethodHandle" ∧ yX11_printsOf.cls ≠ "java/lang/invoke/VarHandle" ∧ (parseMethodDescriptor yX11_printsOf.desc).map (fun d => d.parameters.length) = some 1 := by decide +kernel
theorem qX11_telling : yX11_telling.cls = RX11 ∧ yX11_telling.cls ≠ "java/lang/invoke/MethodHandle" ∧ yX11_telling.cls ≠ "java/lang/invoke/VarHandle" ∧ (parseMethodDescriptor yX11_telling.desc).map (fun d => d.parameters.length) = some 0 := by decide +kernel
theorem qX11_prints : yX11_prints.cls = RX11 ∧ yX11_prints.cls ≠ "java/lang/invoke/MethodHandle" ∧ yX11_prints.cls ≠ "java/lang/invoke/VarHandle" ∧ (parseMethodDescriptor yX11_prints.desc).map (fun d => d.parameters.length) = some 1 := by decide +kernel
theorem qX11_draw : yX11_draw.cls = RX11 ∧ yX11_draw.cls ≠ "java/lang/invoke/MethodHandle" ∧ yX11_draw.cls ≠ "java/lang/invoke/VarHandle" ∧ (parseMethodDescriptor yX11_draw.desc).map (fun d => d.parameters.length) = some 1 := by decide +kernel
theorem qX11_hoursGo : yX11_hoursGo.cls = RX11 ∧ yX11_hoursGo.cls ≠ "java/lang/invoke/MethodHandle" ∧ yX11_hoursGo.cls ≠ "java/lang/invoke/VarHandle" ∧ (parseMethodDescriptor yX11_hoursGo.desc).map (fun d => d.parameters.length) = some 1 := by decide +kernel
theorem qX11_bailsBy : yX11_bailsBy.cls = RX11 ∧ yX11_bailsBy.cls ≠ "java/lang/invoke/MethodHandle" ∧ yX11_bailsBy.cls ≠ "java/lang/invoke/VarHandle" ∧ (parseMethodDescriptor yX11_bailsBy.desc).map (fun d => d.parameters.length) = some 2 := by decide +kernel
theorem qX11_turnsAny : yX11_turnsAny.cls = RX11 ∧ yX11_turnsAny.cls ≠ "java/lang/invoke/MethodHandle" ∧ yX11_turnsAny.cls ≠ "java/lang/invoke/VarHandle" ∧ (parseMethodDescriptor yX11_turnsAny.desc).map (fun d => d.parameters.length) = some 0 := by decide +kernel
theorem qX11_does : yX11_does.cls = RX11 ∧ yX11_does.cls ≠ "java/lang/invoke/MethodHandle" ∧ yX11_does.cls ≠ "java/lang/invoke/VarHandle" ∧ (parseMethodDescriptor yX11_does.desc).map (fun d => d.parameters.length) = some 1 := by decide +kernel
theorem qX11_holds : yX11_holds.cls = RX11 ∧ yX11_holds.cls ≠ "java/lang/invoke/MethodHandle" ∧ yX11_holds.cls ≠ "java/lang/invoke/VarHandle" ∧ (parseMethodDescriptor yX11_holds.desc).map (fun d => d.parameters.length) = some 1 := by decide +kernel
theorem qX11_behindEnds : yX11_behindEnds.cls = RX11 ∧ yX11_behindEnds.cls ≠ "java/lang/invoke/MethodHandle" ∧ yX11_behindEnds.cls ≠ "java/lang/invoke/VarHandle" ∧ (parseMethodDescriptor yX11_behindEnds.desc).map (fun d => d.parameters.length) = some 1 := by decide +kernel
theorem qX11_lives : yX11_lives.cls = RX11 ∧ yX11_lives.cls ≠ "java/lang/invoke/MethodHandle" ∧ yX11_lives.cls ≠ "java/lang/invoke/VarHandle" ∧ (parseMethodDescriptor yX11_lives.desc).map (fun d => d.parameters.length) = some 1 := by decide +kernel
theorem qX11_live : yX11_live.cls = RX11 ∧ yX11_live.cls ≠ "java/lang/invoke/MethodHandle" ∧ yX11_live.cls ≠ "java/lang/invoke/VarHandle" ∧ (parseMethodDescriptor yX11_live.desc).map (fun d => d.parameters.length) = some 1 := by decide +kernel
theorem qX11_lived : yX11_lived.cls = RX11 ∧ yX11_lived.cls ≠ "java/lang/invoke/MethodHandle" ∧ yX11_lived.cls ≠ "java/lang/invoke/VarHandle" ∧ (parseMethodDescriptor yX11_lived.desc).map (fun d => d.parameters.length) = some 1 := by decide +kernel
theorem qX11_mean : yX11_mean.cls = RX11 ∧ yX11_mean.cls ≠ "java/lang/invoke/MethodHandle" ∧ yX11_mean.cls ≠ "java/lang/invoke/VarHandle" ∧ (parseMethodDescriptor yX11_mean.desc).map (fun d => d.parameters.length) = some 2 := by decide +kernel
theorem qX11_copies : yX11_copies.cls = RX11 ∧ yX11_copies.cls ≠ "java/lang/invoke/MethodHandle" ∧ yX11_copies.cls ≠ "java/lang/invoke/VarHandle" ∧ (parseMethodDescriptor yX11_copies.desc).map (fun d => d.parameters.length) = some 2 := by decide +kernel
theorem qX11_mark : yX11_mark.cls = RX11 ∧ yX11_mark.cls ≠ "java/lang/invoke/MethodHandle" ∧ yX11_mark.cls ≠ "java/lang/invoke/VarHandle" ∧ (parseMethodDescriptor yX11_mark.desc).map (fun d => d.parameters.length) = some 0 := by decide +kernel
theorem qX11_undo : yX11_undo.cls = RX11 ∧ yX11_undo.cls ≠ "java/lang/invoke/MethodHandle" ∧ yX11_undo.cls ≠ "java/lang/invoke/VarHandle" ∧ (parseMethodDescriptor yX11_undo.desc).map (fun d => d.parameters.length) = some 0 := by decide +kernel
theorem qX0_clear : yX0_clear.cls = RX0 ∧ yX0_clear.cls ≠ "java/lang/invoke/MethodHandle" ∧ yX0_clear.cls ≠ "java/lang/invoke/VarHandle" ∧ (parseMethodDescriptor yX0_clear.desc).map (fun d => d.parameters.length) = some 0 := by decide +kernel
theorem qX0_clearRota : yX0_clearRota.cls = RX0 ∧ yX0_clearRota.cls ≠ "java/lang/invoke/MethodHandle" ∧ yX0_clearRota.cls ≠ "java/lang/invoke/VarHandle" ∧ (parseMethodDescriptor yX0_clearRota.desc).map (fun d => d.parameters.length) = some 0 := by decide +kernel
theorem qX0_add : yX0_add.cls = RX0 ∧ yX0_add.cls ≠ "java/lang/invoke/MethodHandle" ∧ yX0_add.cls ≠ "java/lang/invoke/VarHandle" ∧ (parseMethodDescriptor yX0_add.desc).map (fun d => d.parameters.length) = some 6 := by decide +kernel
theorem qX0_copyFrom : yX0_copyFrom.cls = RX0 ∧ yX0_copyFrom.cls ≠ "java/lang/invoke/MethodHandle" ∧ yX0_copyFrom.cls ≠ "java/lang/invoke/VarHandle" ∧ (parseMethodDescriptor yX0_copyFrom.desc).map (fun d => d.parameters.length) = some 1 := by decide +kernel
theorem qX0_indexOf : yX0_indexOf.cls = RX0 ∧ yX0_indexOf.cls ≠ "java/lang/invoke/MethodHandle" ∧ yX0_indexOf.cls ≠ "java/lang/invoke/VarHandle" ∧ (parseMethodDescriptor yX0_indexOf.desc).map (fun d => d.parameters.length) = some 1 := by decide +kernel
theorem qX0_all : yX0_all.cls = RX0 ∧ yX0_all.cls ≠ "java/lang/invoke/MethodHandle" ∧ yX0_all.cls ≠ "java/lang/invoke/VarHandle" ∧ (parseMethodDescriptor yX0_all.desc).map (fun d => d.parameters.length) = some 0 := by decide +kernel
theorem qX0_isHeld : yX0_isHeld.cls = RX0 ∧ yX0_isHeld.cls ≠ "java/lang/invoke/MethodHandle" ∧ yX0_isHeld.cls ≠ "java/lang/invoke/VarHandle" ∧ (parseMethodDescriptor yX0_isHeld.desc).map (fun d => d.parameters.length) = some 1 := by decide +kernel
theorem qX0_isWalled : yX0_isWalled.cls = RX0 ∧ yX0_isWalled.cls ≠ "java/lang/invoke/MethodHandle" ∧ yX0_isWalled.cls ≠ "java/lang/invoke/VarHandle" ∧ (parseMethodDescriptor yX0_isWalled.desc).map (fun d => d.parameters.length) = some 1 := by decide +kernel
theorem qX0_openJust : yX0_openJust.cls = RX0 ∧ yX0_openJust.cls ≠ "java/lang/invoke/MethodHandle" ∧ yX0_openJust.cls ≠ "java/lang/invoke/VarHandle" ∧ (parseMethodDescriptor yX0_openJust.desc).map (fun d => d.parameters.length) = some 1 := by decide +kernel
theorem qX0_hoursOnRota : yX0_hoursOnRota.cls = RX0 ∧ yX0_hoursOnRota.cls ≠ "java/lang/invoke/MethodHandle" ∧ yX0_hoursOnRota.cls ≠ "java/lang/invoke/VarHandle" ∧ (parseMethodDescriptor yX0_hoursOnRota.desc).map (fun d => d.parameters.length) = some 1 := by decide +kernel
theorem qX0_toSea : yX0_toSea.cls = RX0 ∧ yX0_toSea.cls ≠ "java/lang/invoke/MethodHandle" ∧ yX0_toSea.cls ≠ "java/lang/invoke/VarHandle" ∧ (parseMethodDescriptor yX0_toSea.desc).map (fun d => d.parameters.length) = some 0 := by decide +kernel
theorem qX0_reached : yX0_reached.cls = RX0 ∧ yX0_reached.cls ≠ "java/lang/invoke/MethodHandle" ∧ yX0_reached.cls ≠ "java/lang/invoke/VarHandle" ∧ (parseMethodDescriptor yX0_reached.desc).map (fun d => d.parameters.length) = some 2 := by decide +kernel
theorem qX1_clear : yX1_clear.cls = RX1 ∧ yX1_clear.cls ≠ "java/lang/invoke/MethodHandle" ∧ yX1_clear.cls ≠ "java/lang/invoke/VarHandle" ∧ (parseMethodDescriptor yX1_clear.desc).map (fun d => d.parameters.length) = some 0 := by decide +kernel
theorem qX1_setAllTides : yX1_setAllTides.cls = RX1 ∧ yX1_setAllTides.cls ≠ "java/lang/invoke/MethodHandle" ∧ yX1_setAllTides.cls ≠ "java/lang/invoke/VarHandle" ∧ (parseMethodDescriptor yX1_setAllTides.desc).map (fun d => d.parameters.length) = some 1 := by decide +kernel
theorem qX1_addErrand : yX1_addErrand.cls = RX1 ∧ yX1_addErrand.cls ≠ "java/lang/invoke/MethodHandle" ∧ yX1_addErrand.cls ≠ "java/lang/invoke/VarHandle" ∧ (parseMethodDescriptor yX1_addErrand.desc).map (fun d => d.parameters.length) = some 4 := by decide +kernel
theorem qX1_copyFrom : yX1_copyFrom.cls = RX1 ∧ yX1_copyFrom.cls ≠ "java/lang/invoke/MethodHandle" ∧ yX1_copyFrom.cls ≠ "java/lang/invoke/VarHandle" ∧ (parseMethodDescriptor yX1_copyFrom.desc).map (fun d => d.parameters.length) = some 1 := by decide +kernel
theorem qX1_copyWaterFrom : yX1_copyWaterFrom.cls = RX1 ∧ yX1_copyWaterFrom.cls ≠ "java/lang/invoke/MethodHandle" ∧ yX1_copyWaterFrom.cls ≠ "java/lang/invoke/VarHandle" ∧ (parseMethodDescriptor yX1_copyWaterFrom.desc).map (fun d => d.parameters.length) = some 1 := by decide +kernel
theorem qX1_isNameTaken : yX1_isNameTaken.cls = RX1 ∧ yX1_isNameTaken.cls ≠ "java/lang/invoke/MethodHandle" ∧ yX1_isNameTaken.cls ≠ "java/lang/invoke/VarHandle" ∧ (parseMethodDescriptor yX1_isNameTaken.desc).map (fun d => d.parameters.length) = some 1 := by decide +kernel
theorem qX1_hourOfDay : yX1_hourOfDay.cls = RX1 ∧ yX1_hourOfDay.cls ≠ "java/lang/invoke/MethodHandle" ∧ yX1_hourOfDay.cls ≠ "java/lang/invoke/VarHandle" ∧ (parseMethodDescriptor yX1_hourOfDay.desc).map (fun d => d.parameters.length) = some 0 := by decide +kernel
theorem qX1_openNow : yX1_openNow.cls = RX1 ∧ yX1_openNow.cls ≠ "java/lang/invoke/MethodHandle" ∧ yX1_openNow.cls ≠ "java/lang/invoke/VarHandle" ∧ (parseMethodDescriptor yX1_openNow.desc).map (fun d => d.parameters.length) = some 0 := by decide +kernel
theorem qX1_findSurfaces : yX1_findSurfaces.cls = RX1 ∧ yX1_findSurfaces.cls ≠ "java/lang/invoke/MethodHandle" ∧ yX1_findSurfaces.cls ≠ "java/lang/invoke/VarHandle" ∧ (parseMethodDescriptor yX1_findSurfaces.desc).map (fun d => d.parameters.length) = some 0 := by decide +kernel
theorem qX1_findFlows : yX1_findFlows.cls = RX1 ∧ yX1_findFlows.cls ≠ "java/lang/invoke/MethodHandle" ∧ yX1_findFlows.cls ≠ "java/lang/invoke/VarHandle" ∧ (parseMethodDescriptor yX1_findFlows.desc).map (fun d => d.parameters.length) = some 0 := by decide +kernel
theorem qX1_surfaceOf : yX1_surfaceOf.cls = RX1 ∧ yX1_surfaceOf.cls ≠ "java/lang/invoke/MethodHandle" ∧ yX1_surfaceOf.cls ≠ "java/lang/invoke/VarHandle" ∧ (parseMethodDescriptor yX1_surfaceOf.desc).map (fun d => d.parameters.length) = some 1 := by decide +kernel
theorem qX1_letThrough : yX1_letThrough.cls = RX1 ∧ yX1_letThrough.cls ≠ "java/lang/invoke/MethodHandle" ∧ yX1_letThrough.cls ≠ "java/lang/invoke/VarHandle" ∧ (parseMethodDescriptor yX1_letThrough.desc).map (fun d => d.parameters.length) = some 0 := by decide +kernel
theorem qX1_isRoomEnd : yX1_isRoomEnd.cls ≠ "java/lang/invoke/MethodHandle" ∧ yX1_isRoomEnd.cls ≠ "java/lang/invoke/VarHandle" ∧ (parseMethodDescriptor yX1_isRoomEnd.desc).map (fun d => d.parameters.length) = some 1 := by decide +kernel
theorem qX1_goOneHour : yX1_goOneHour.cls = RX1 ∧ yX1_goOneHour.cls ≠ "java/lang/invoke/MethodHandle" ∧ yX1_goOneHour.cls ≠ "java/lang/invoke/VarHandle" ∧ (parseMethodDescriptor yX1_goOneHour.desc).map (fun d => d.parameters.length) = some 0 := by decide +kernel
theorem qX1_goOn : yX1_goOn.cls = RX1 ∧ yX1_goOn.cls ≠ "java/lang/invoke/MethodHandle" ∧ yX1_goOn.cls ≠ "java/lang/invoke/VarHandle" ∧ (parseMethodDescriptor yX1_goOn.desc).map (fun d => d.parameters.length) = some 1 := by decide +kernel
theorem qX1_waterIn : yX1_waterIn.cls = RX1 ∧ yX1_waterIn.cls ≠ "java/lang/invoke/MethodHandle" ∧ yX1_waterIn.cls ≠ "java/lang/invoke/VarHandle" ∧ (parseMethodDescriptor yX1_waterIn.desc).map (fun d => d.parameters.length) = some 1 := by decide +kernel
theorem qX2_readAll : yX2_readAll.cls = RX2 ∧ yX2_readAll.cls ≠ "java/lang/invoke/MethodHandle" ∧ yX2_readAll.cls ≠ "java/lang/invoke/VarHandle" ∧ (parseMethodDescriptor yX2_readAll.desc).map (fun d => d.parameters.length) = some 2 := by decide +kernel
theorem qX2_readPart : yX2_readPart.cls = RX2 ∧ yX2_readPart.cls ≠ "java/lang/invoke/MethodHandle" ∧ yX2_readPart.cls ≠ "java/lang/invoke/VarHandle" ∧ (parseMethodDescriptor yX2_readPart.desc).map (fun d => d.parameters.length) = some 0 := by decide +kernel
theorem qX2_readRoom : yX2_readRoom.cls = RX2 ∧ yX2_readRoom.cls ≠ "java/lang/invoke/MethodHandle" ∧ yX2_readRoom.cls ≠ "java/lang/invoke/VarHandle" ∧ (parseMethodDescriptor yX2_readRoom.desc).map (fun d => d.parameters.length) = some 0 := by decide +kernel
theorem qX2_readDoor : yX2_readDoor.cls = RX2 ∧ yX2_readDoor.cls ≠ "java/lang/invoke/MethodHandle" ∧ yX2_readDoor.cls ≠ "java/lang/invoke/VarHandle" ∧ (parseMethodDescriptor yX2_readDoor.desc).map (fun d => d.parameters.length) = some 0 := by decide +kernel
theorem qX2_readTide : yX2_readTide.cls = RX2 ∧ yX2_readTide.cls ≠ "java/lang/invoke/MethodHandle" ∧ yX2_readTide.cls ≠ "java/lang/invoke/VarHandle" ∧ (parseMethodDescriptor yX2_readTide.desc).map (fun d => d.parameters.length) = some 0 := by decide +kernel
theorem qX2_readPump : yX2_readPump.cls = RX2 ∧ yX2_readPump.cls ≠ "java/lang/invoke/MethodHandle" ∧ yX2_readPump.cls ≠ "java/lang/invoke/VarHandle" ∧ (parseMethodDescriptor yX2_readPump.desc).map (fun d => d.parameters.length) = some 0 := by decide +kernel
theorem qX2_readRota : yX2_readRota.cls = RX2 ∧ yX2_readRota.cls ≠ "java/lang/invoke/MethodHandle" ∧ yX2_readRota.cls ≠ "java/lang/invoke/VarHandle" ∧ (parseMethodDescriptor yX2_readRota.desc).map (fun d => d.parameters.length) = some 0 := by decide +kernel
theorem qX2_readErrand : yX2_readErrand.cls = RX2 ∧ yX2_readErrand.cls ≠ "java/lang/invoke/MethodHandle" ∧ yX2_readErrand.cls ≠ "java/lang/invoke/VarHandle" ∧ (parseMethodDescriptor yX2_readErrand.desc).map (fun d => d.parameters.length) = some 0 := by decide +kernel
theorem qX3_pass : yX3_pass.cls = RX3 ∧ yX3_pass.cls ≠ "java/lang/invoke/MethodHandle" ∧ yX3_pass.cls ≠ "java/lang/invoke/VarHandle" ∧ (parseMethodDescriptor yX3_pass.desc).map (fun d => d.parameters.length) = some 3 := by decide +kernel
theorem qX3_behindEnd : yX3_behindEnd.cls = RX3 ∧ yX3_behindEnd.cls ≠ "java/lang/invoke/MethodHandle" ∧ yX3_behindEnd.cls ≠ "java/lang/invoke/VarHandle" ∧ (parseMethodDescriptor yX3_behindEnd.desc).map (fun d => d.parameters.length) = some 2 := by decide +kernel
theorem qX3_behindStep : yX3_behindStep.cls = RX3 ∧ yX3_behindStep.cls ≠ "java/lang/invoke/MethodHandle" ∧ yX3_behindStep.cls ≠ "java/lang/invoke/VarHandle" ∧ (parseMethodDescriptor yX3_behindStep.desc).map (fun d => d.parameters.length) = some 3 := by decide +kernel
theorem qX3_goOn : yX3_goOn.cls = RX3 ∧ yX3_goOn.cls ≠ "java/lang/invoke/MethodHandle" ∧ yX3_goOn.cls ≠ "java/lang/invoke/VarHandle" ∧ (parseMethodDescriptor yX3_goOn.desc).map (fun d => d.parameters.length) = some 2 := by decide +kernel
theorem qX3_turn : yX3_turn.cls = RX3 ∧ yX3_turn.cls ≠ "java/lang/invoke/MethodHandle" ∧ yX3_turn.cls ≠ "java/lang/invoke/VarHandle" ∧ (parseMethodDescriptor yX3_turn.desc).map (fun d => d.parameters.length) = some 3 := by decide +kernel
theorem qX3_turnAny : yX3_turnAny.cls = RX3 ∧ yX3_turnAny.cls ≠ "java/lang/invoke/MethodHandle" ∧ yX3_turnAny.cls ≠ "java/lang/invoke/VarHandle" ∧ (parseMethodDescriptor yX3_turnAny.desc).map (fun d => d.parameters.length) = some 1 := by decide +kernel
theorem qX3_drawBy : yX3_drawBy.cls = RX3 ∧ yX3_drawBy.cls ≠ "java/lang/invoke/MethodHandle" ∧ yX3_drawBy.cls ≠ "java/lang/invoke/VarHandle" ∧ (parseMethodDescriptor yX3_drawBy.desc).map (fun d => d.parameters.length) = some 1 := by decide +kernel
theorem qX3_bailOut : yX3_bailOut.cls = RX3 ∧ yX3_bailOut.cls ≠ "java/lang/invoke/MethodHandle" ∧ yX3_bailOut.cls ≠ "java/lang/invoke/VarHandle" ∧ (parseMethodDescriptor yX3_bailOut.desc).map (fun d => d.parameters.length) = some 3 := by decide +kernel
theorem qX3_isSo : yX3_isSo.cls ≠ "java/lang/invoke/MethodHandle" ∧ yX3_isSo.cls ≠ "java/lang/invoke/VarHandle" ∧ (parseMethodDescriptor yX3_isSo.desc).map (fun d => d.parameters.length) = some 4 := by decide +kernel
theorem qX4_forget : yX4_forget.cls = RX4 ∧ yX4_forget.cls ≠ "java/lang/invoke/MethodHandle" ∧ yX4_forget.cls ≠ "java/lang/invoke/VarHandle" ∧ (parseMethodDescriptor yX4_forget.desc).map (fun d => d.parameters.length) = some 0 := by decide +kernel
theorem qX4_add : yX4_add.cls = RX4 ∧ yX4_add.cls ≠ "java/lang/invoke/MethodHandle" ∧ yX4_add.cls ≠ "java/lang/invoke/VarHandle" ∧ (parseMethodDescriptor yX4_add.desc).map (fun d => d.parameters.length) = some 3 := by decide +kernel
theorem qX4_pair : yX4_pair.cls = RX4 ∧ yX4_pair.cls ≠ "java/lang/invoke/MethodHandle" ∧ yX4_pair.cls ≠ "java/lang/invoke/VarHandle" ∧ (parseMethodDescriptor yX4_pair.desc).map (fun d => d.parameters.length) = some 2 := by decide +kernel
theorem qX4_copyFrom : yX4_copyFrom.cls = RX4 ∧ yX4_copyFrom.cls ≠ "java/lang/invoke/MethodHandle" ∧ yX4_copyFrom.cls ≠ "java/lang/invoke/VarHandle" ∧ (parseMethodDescriptor yX4_copyFrom.desc).map (fun d => d.parameters.length) = some 1 := by decide +kernel
theorem qX5_readAll : yX5_readAll.cls = RX5 ∧ yX5_readAll.cls ≠ "java/lang/invoke/MethodHandle" ∧ yX5_readAll.cls ≠ "java/lang/invoke/VarHandle" ∧ (parseMethodDescriptor yX5_readAll.desc).map (fun d => d.parameters.length) = some 3 := by decide +kernel
theorem qX5_mayBegin : yX5_mayBegin.cls = RX5 ∧ yX5_mayBegin.cls ≠ "java/lang/invoke/MethodHandle" ∧ yX5_mayBegin.cls ≠ "java/lang/invoke/VarHandle" ∧ (parseMethodDescriptor yX5_mayBegin.desc).map (fun d => d.parameters.length) = some 0 := by decide +kernel
theorem qX5_goWithin : yX5_goWithin.cls = RX5 ∧ yX5_goWithin.cls ≠ "java/lang/invoke/MethodHandle" ∧ yX5_goWithin.cls ≠ "java/lang/invoke/VarHandle" ∧ (parseMethodDescriptor yX5_goWithin.desc).map (fun d => d.parameters.length) = some 0 := by decide +kernel
theorem qX5_beginsStep : yX5_beginsStep.cls ≠ "java/lang/invoke/MethodHandle" ∧ yX5_beginsStep.cls ≠ "java/lang/invoke/VarHandle" ∧ (parseMethodDescriptor yX5_beginsStep.desc).map (fun d => d.parameters.length) = some 1 := by decide +kernel
theorem qX5_readEnd : yX5_readEnd.cls = RX5 ∧ yX5_readEnd.cls ≠ "java/lang/invoke/MethodHandle" ∧ yX5_readEnd.cls ≠ "java/lang/invoke/VarHandle" ∧ (parseMethodDescriptor yX5_readEnd.desc).map (fun d => d.parameters.length) = some 0 := by decide +kernel
theorem qX5_readStep : yX5_readStep.cls = RX5 ∧ yX5_readStep.cls ≠ "java/lang/invoke/MethodHandle" ∧ yX5_readStep.cls ≠ "java/lang/invoke/VarHandle" ∧ (parseMethodDescriptor yX5_readStep.desc).map (fun d => d.parameters.length) = some 1 := by decide +kernel
theorem qX5_addBare : yX5_addBare.cls = RX5 ∧ yX5_addBare.cls ≠ "java/lang/invoke/MethodHandle" ∧ yX5_addBare.cls ≠ "java/lang/invoke/VarHandle" ∧ (parseMethodDescriptor yX5_addBare.desc).map (fun d => d.parameters.length) = some 1 := by decide +kernel
theorem qX5_addNumber : yX5_addNumber.cls = RX5 ∧ yX5_addNumber.cls ≠ "java/lang/invoke/MethodHandle" ∧ yX5_addNumber.cls ≠ "java/lang/invoke/VarHandle" ∧ (parseMethodDescriptor yX5_addNumber.desc).map (fun d => d.parameters.length) = some 2 := by decide +kernel
theorem qX5_addDoor : yX5_addDoor.cls = RX5 ∧ yX5_addDoor.cls ≠ "java/lang/invoke/MethodHandle" ∧ yX5_addDoor.cls ≠ "java/lang/invoke/VarHandle" ∧ (parseMethodDescriptor yX5_addDoor.desc).map (fun d => d.parameters.length) = some 2 := by decide +kernel
theorem qX5_addBail : yX5_addBail.cls = RX5 ∧ yX5_addBail.cls ≠ "java/lang/invoke/MethodHandle" ∧ yX5_addBail.cls ≠ "java/lang/invoke/VarHandle" ∧ (parseMethodDescriptor yX5_addBail.desc).map (fun d => d.parameters.length) = some 1 := by decide +kernel
theorem qX5_readTest : yX5_readTest.cls = RX5 ∧ yX5_readTest.cls ≠ "java/lang/invoke/MethodHandle" ∧ yX5_readTest.cls ≠ "java/lang/invoke/VarHandle" ∧ (parseMethodDescriptor yX5_readTest.desc).map (fun d => d.parameters.length) = some 1 := by decide +kernel
theorem qX5_addDepth : yX5_addDepth.cls = RX5 ∧ yX5_addDepth.cls ≠ "java/lang/invoke/MethodHandle" ∧ yX5_addDepth.cls ≠ "java/lang/invoke/VarHandle" ∧ (parseMethodDescriptor yX5_addDepth.desc).map (fun d => d.parameters.length) = some 1 := by decide +kernel
theorem qX5_kindOf : yX5_kindOf.cls ≠ "java/lang/invoke/MethodHandle" ∧ yX5_kindOf.cls ≠ "java/lang/invoke/VarHandle" ∧ (parseMethodDescriptor yX5_kindOf.desc).map (fun d => d.parameters.length) = some 1 := by decide +kernel
theorem qX6_wallsFor : yX6_wallsFor.cls ≠ "java/lang/invoke/MethodHandle" ∧ yX6_wallsFor.cls ≠ "java/lang/invoke/VarHandle" ∧ (parseMethodDescriptor yX6_wallsFor.desc).map (fun d => d.parameters.length) = some 2 := by decide +kernel
theorem qX6_planErrands : yX6_planErrands.cls = RX6 ∧ yX6_planErrands.cls ≠ "java/lang/invoke/MethodHandle" ∧ yX6_planErrands.cls ≠ "java/lang/invoke/VarHandle" ∧ (parseMethodDescriptor yX6_planErrands.desc).map (fun d => d.parameters.length) = some 1 := by decide +kernel
theorem qX6_shiftOf : yX6_shiftOf.cls ≠ "java/lang/invoke/MethodHandle" ∧ yX6_shiftOf.cls ≠ "java/lang/invoke/VarHandle" ∧ (parseMethodDescriptor yX6_shiftOf.desc).map (fun d => d.parameters.length) = some 1 := by decide +kernel
theorem qX6_plannedHour : yX6_plannedHour.cls = RX6 ∧ yX6_plannedHour.cls ≠ "java/lang/invoke/MethodHandle" ∧ yX6_plannedHour.cls ≠ "java/lang/invoke/VarHandle" ∧ (parseMethodDescriptor yX6_plannedHour.desc).map (fun d => d.parameters.length) = some 1 := by decide +kernel
theorem qX6_tryErrands : yX6_tryErrands.cls ≠ "java/lang/invoke/MethodHandle" ∧ yX6_tryErrands.cls ≠ "java/lang/invoke/VarHandle" ∧ (parseMethodDescriptor yX6_tryErrands.desc).map (fun d => d.parameters.length) = some 4 := by decide +kernel
theorem qX6_weighPlan : yX6_weighPlan.cls = RX6 ∧ yX6_weighPlan.cls ≠ "java/lang/invoke/MethodHandle" ∧ yX6_weighPlan.cls ≠ "java/lang/invoke/VarHandle" ∧ (parseMethodDescriptor yX6_weighPlan.desc).map (fun d => d.parameters.length) = some 1 := by decide +kernel
theorem qX6_keepWater : yX6_keepWater.cls = RX6 ∧ yX6_keepWater.cls ≠ "java/lang/invoke/MethodHandle" ∧ yX6_keepWater.cls ≠ "java/lang/invoke/VarHandle" ∧ (parseMethodDescriptor yX6_keepWater.desc).map (fun d => d.parameters.length) = some 1 := by decide +kernel
theorem qX6_takeWaterBack : yX6_takeWaterBack.cls = RX6 ∧ yX6_takeWaterBack.cls ≠ "java/lang/invoke/MethodHandle" ∧ yX6_takeWaterBack.cls ≠ "java/lang/invoke/VarHandle" ∧ (parseMethodDescriptor yX6_takeWaterBack.desc).map (fun d => d.parameters.length) = some 1 := by decide +kernel
theorem qX6_errandsAt : yX6_errandsAt.cls = RX6 ∧ yX6_errandsAt.cls ≠ "java/lang/invoke/MethodHandle" ∧ yX6_errandsAt.cls ≠ "java/lang/invoke/VarHandle" ∧ (parseMethodDescriptor yX6_errandsAt.desc).map (fun d => d.parameters.length) = some 2 := by decide +kernel
theorem qX6_errandsLater : yX6_errandsLater.cls = RX6 ∧ yX6_errandsLater.cls ≠ "java/lang/invoke/MethodHandle" ∧ yX6_errandsLater.cls ≠ "java/lang/invoke/VarHandle" ∧ (parseMethodDescriptor yX6_errandsLater.desc).map (fun d => d.parameters.length) = some 3 := by decide +kernel
theorem qX6_doorsOf : yX6_doorsOf.cls = RX6 ∧ yX6_doorsOf.cls ≠ "java/lang/invoke/MethodHandle" ∧ yX6_doorsOf.cls ≠ "java/lang/invoke/VarHandle" ∧ (parseMethodDescriptor yX6_doorsOf.desc).map (fun d => d.parameters.length) = some 1 := by decide +kernel
theorem qX6_hoursOf : yX6_hoursOf.cls = RX6 ∧ yX6_hoursOf.cls ≠ "java/lang/invoke/MethodHandle" ∧ yX6_hoursOf.cls ≠ "java/lang/invoke/VarHandle" ∧ (parseMethodDescriptor yX6_hoursOf.desc).map (fun d => d.parameters.length) = some 2 := by decide +kernel
theorem qX6_planPumps : yX6_planPumps.cls = RX6 ∧ yX6_planPumps.cls ≠ "java/lang/invoke/MethodHandle" ∧ yX6_planPumps.cls ≠ "java/lang/invoke/VarHandle" ∧ (parseMethodDescriptor yX6_planPumps.desc).map (fun d => d.parameters.length) = some 2 := by decide +kernel
theorem qX6_damageBy : yX6_damageBy.cls = RX6 ∧ yX6_damageBy.cls ≠ "java/lang/invoke/MethodHandle" ∧ yX6_damageBy.cls ≠ "java/lang/invoke/VarHandle" ∧ (parseMethodDescriptor yX6_damageBy.desc).map (fun d => d.parameters.length) = some 2 := by decide +kernel
theorem qX6_ordersOf : yX6_ordersOf.cls ≠ "java/lang/invoke/MethodHandle" ∧ yX6_ordersOf.cls ≠ "java/lang/invoke/VarHandle" ∧ (parseMethodDescriptor yX6_ordersOf.desc).map (fun d => d.parameters.length) = some 1 := by decide +kernel
theorem qX6_shareOfOrders : yX6_shareOfOrders.cls = RX6 ∧ yX6_shareOfOrders.cls ≠ "java/lang/invoke/MethodHandle" ∧ yX6_shareOfOrders.cls ≠ "java/lang/invoke/VarHandle" ∧ (parseMethodDescriptor yX6_shareOfOrders.desc).map (fun d => d.parameters.length) = some 3 := by decide +kernel
theorem qX6_findPrints : yX6_findPrints.cls = RX6 ∧ yX6_findPrints.cls ≠ "java/lang/invoke/MethodHandle" ∧ yX6_findPrints.cls ≠ "java/lang/invoke/VarHandle" ∧ (parseMethodDescriptor yX6_findPrints.desc).map (fun d => d.parameters.length) = some 1 := by decide +kernel
theorem qX6_unlikeMarks : yX6_unlikeMarks.cls = RX6 ∧ yX6_unlikeMarks.cls ≠ "java/lang/invoke/MethodHandle" ∧ yX6_unlikeMarks.cls ≠ "java/lang/invoke/VarHandle" ∧ (parseMethodDescriptor yX6_unlikeMarks.desc).map (fun d => d.parameters.length) = some 2 := by decide +kernel
theorem qX6_isAmong : yX6_isAmong.cls = RX6 ∧ yX6_isAmong.cls ≠ "java/lang/invoke/MethodHandle" ∧ yX6_isAmong.cls ≠ "java/lang/invoke/VarHandle" ∧ (parseMethodDescriptor yX6_isAmong.desc).map (fun d => d.parameters.length) = some 3 := by decide +kernel
theorem qX7_clear : yX7_clear.cls = RX7 ∧ yX7_clear.cls ≠ "java/lang/invoke/MethodHandle" ∧ yX7_clear.cls ≠ "java/lang/invoke/VarHandle" ∧ (parseMethodDescriptor yX7_clear.desc).map (fun d => d.parameters.length) = some 0 := by decide +kernel
theorem qX7_add : yX7_add.cls = RX7 ∧ yX7_add.cls ≠ "java/lang/invoke/MethodHandle" ∧ yX7_add.cls ≠ "java/lang/invoke/VarHandle" ∧ (parseMethodDescriptor yX7_add.desc).map (fun d => d.parameters.length) = some 5 := by decide +kernel
theorem qX7_copyFrom : yX7_copyFrom.cls = RX7 ∧ yX7_copyFrom.cls ≠ "java/lang/invoke/MethodHandle" ∧ yX7_copyFrom.cls ≠ "java/lang/invoke/VarHandle" ∧ (parseMethodDescriptor yX7_copyFrom.desc).map (fun d => d.parameters.length) = some 1 := by decide +kernel
theorem qX7_indexOf : yX7_indexOf.cls = RX7 ∧ yX7_indexOf.cls ≠ "java/lang/invoke/MethodHandle" ∧ yX7_indexOf.cls ≠ "java/lang/invoke/VarHandle" ∧ (parseMethodDescriptor yX7_indexOf.desc).map (fun d => d.parameters.length) = some 1 := by decide +kernel
theorem qX7_depth : yX7_depth.cls = RX7 ∧ yX7_depth.cls ≠ "java/lang/invoke/MethodHandle" ∧ yX7_depth.cls ≠ "java/lang/invoke/VarHandle" ∧ (parseMethodDescriptor yX7_depth.desc).map (fun d => d.parameters.length) = some 1 := by decide +kernel
theorem qX7_isDrowned : yX7_isDrowned.cls = RX7 ∧ yX7_isDrowned.cls ≠ "java/lang/invoke/MethodHandle" ∧ yX7_isDrowned.cls ≠ "java/lang/invoke/VarHandle" ∧ (parseMethodDescriptor yX7_isDrowned.desc).map (fun d => d.parameters.length) = some 1 := by decide +kernel
theorem qX7_allWater : yX7_allWater.cls = RX7 ∧ yX7_allWater.cls ≠ "java/lang/invoke/MethodHandle" ∧ yX7_allWater.cls ≠ "java/lang/invoke/VarHandle" ∧ (parseMethodDescriptor yX7_allWater.desc).map (fun d => d.parameters.length) = some 0 := by decide +kernel
theorem qX7_wetOnes : yX7_wetOnes.cls = RX7 ∧ yX7_wetOnes.cls ≠ "java/lang/invoke/MethodHandle" ∧ yX7_wetOnes.cls ≠ "java/lang/invoke/VarHandle" ∧ (parseMethodDescriptor yX7_wetOnes.desc).map (fun d => d.parameters.length) = some 0 := by decide +kernel
theorem qX7_wipeMarks : yX7_wipeMarks.cls = RX7 ∧ yX7_wipeMarks.cls ≠ "java/lang/invoke/MethodHandle" ∧ yX7_wipeMarks.cls ≠ "java/lang/invoke/VarHandle" ∧ (parseMethodDescriptor yX7_wipeMarks.desc).map (fun d => d.parameters.length) = some 0 := by decide +kernel
theorem qX7_pumpOut : yX7_pumpOut.cls = RX7 ∧ yX7_pumpOut.cls ≠ "java/lang/invoke/MethodHandle" ∧ yX7_pumpOut.cls ≠ "java/lang/invoke/VarHandle" ∧ (parseMethodDescriptor yX7_pumpOut.desc).map (fun d => d.parameters.length) = some 0 := by decide +kernel
theorem qX7_lookAtDepths : yX7_lookAtDepths.cls = RX7 ∧ yX7_lookAtDepths.cls ≠ "java/lang/invoke/MethodHandle" ∧ yX7_lookAtDepths.cls ≠ "java/lang/invoke/VarHandle" ∧ (parseMethodDescriptor yX7_lookAtDepths.desc).map (fun d => d.parameters.length) = some 0 := by decide +kernel
theorem qX8_reserve : yX8_reserve.cls = RX8 ∧ yX8_reserve.cls ≠ "java/lang/invoke/MethodHandle" ∧ yX8_reserve.cls ≠ "java/lang/invoke/VarHandle" ∧ (parseMethodDescriptor yX8_reserve.desc).map (fun d => d.parameters.length) = some 2 := by decide +kernel
theorem qX8_withLetter : yX8_withLetter.cls ≠ "java/lang/invoke/MethodHandle" ∧ yX8_withLetter.cls ≠ "java/lang/invoke/VarHandle" ∧ (parseMethodDescriptor yX8_withLetter.desc).map (fun d => d.parameters.length) = some 2 := by decide +kernel
theorem qX8_isLetter : yX8_isLetter.cls ≠ "java/lang/invoke/MethodHandle" ∧ yX8_isLetter.cls ≠ "java/lang/invoke/VarHandle" ∧ (parseMethodDescriptor yX8_isLetter.desc).map (fun d => d.parameters.length) = some 1 := by decide +kernel
theorem qX8_isDigit : yX8_isDigit.cls ≠ "java/lang/invoke/MethodHandle" ∧ yX8_isDigit.cls ≠ "java/lang/invoke/VarHandle" ∧ (parseMethodDescriptor yX8_isDigit.desc).map (fun d => d.parameters.length) = some 1 := by decide +kernel
theorem qX8_isBlank : yX8_isBlank.cls ≠ "java/lang/invoke/MethodHandle" ∧ yX8_isBlank.cls ≠ "java/lang/invoke/VarHandle" ∧ (parseMethodDescriptor yX8_isBlank.desc).map (fun d => d.parameters.length) = some 1 := by decide +kernel
theorem qX8_isSign : yX8_isSign.cls ≠ "java/lang/invoke/MethodHandle" ∧ yX8_isSign.cls ≠ "java/lang/invoke/VarHandle" ∧ (parseMethodDescriptor yX8_isSign.desc).map (fun d => d.parameters.length) = some 1 := by decide +kernel
theorem qX8_begin : yX8_begin.cls = RX8 ∧ yX8_begin.cls ≠ "java/lang/invoke/MethodHandle" ∧ yX8_begin.cls ≠ "java/lang/invoke/VarHandle" ∧ (parseMethodDescriptor yX8_begin.desc).map (fun d => d.parameters.length) = some 2 := by decide +kernel
theorem qX8_add : yX8_add.cls = RX8 ∧ yX8_add.cls ≠ "java/lang/invoke/MethodHandle" ∧ yX8_add.cls ≠ "java/lang/invoke/VarHandle" ∧ (parseMethodDescriptor yX8_add.desc).map (fun d => d.parameters.length) = some 3 := by decide +kernel
theorem qX8_behindToken : yX8_behindToken.cls = RX8 ∧ yX8_behindToken.cls ≠ "java/lang/invoke/MethodHandle" ∧ yX8_behindToken.cls ≠ "java/lang/invoke/VarHandle" ∧ (parseMethodDescriptor yX8_behindToken.desc).map (fun d => d.parameters.length) = some 3 := by decide +kernel
theorem qX8_behindWord : yX8_behindWord.cls = RX8 ∧ yX8_behindWord.cls ≠ "java/lang/invoke/MethodHandle" ∧ yX8_behindWord.cls ≠ "java/lang/invoke/VarHandle" ∧ (parseMethodDescriptor yX8_behindWord.desc).map (fun d => d.parameters.length) = some 3 := by decide +kernel
theorem qX8_behindNumber : yX8_behindNumber.cls = RX8 ∧ yX8_behindNumber.cls ≠ "java/lang/invoke/MethodHandle" ∧ yX8_behindNumber.cls ≠ "java/lang/invoke/VarHandle" ∧ (parseMethodDescriptor yX8_behindNumber.desc).map (fun d => d.parameters.length) = some 3 := by decide +kernel
theorem qX8_advance : yX8_advance.cls = RX8 ∧ yX8_advance.cls ≠ "java/lang/invoke/MethodHandle" ∧ yX8_advance.cls ≠ "java/lang/invoke/VarHandle" ∧ (parseMethodDescriptor yX8_advance.desc).map (fun d => d.parameters.length) = some 0 := by decide +kernel
theorem qX8_isAtEnd : yX8_isAtEnd.cls = RX8 ∧ yX8_isAtEnd.cls ≠ "java/lang/invoke/MethodHandle" ∧ yX8_isAtEnd.cls ≠ "java/lang/invoke/VarHandle" ∧ (parseMethodDescriptor yX8_isAtEnd.desc).map (fun d => d.parameters.length) = some 0 := by decide +kernel
theorem qX8_wrong : yX8_wrong.cls = RX8 ∧ yX8_wrong.cls ≠ "java/lang/invoke/MethodHandle" ∧ yX8_wrong.cls ≠ "java/lang/invoke/VarHandle" ∧ (parseMethodDescriptor yX8_wrong.desc).map (fun d => d.parameters.length) = some 1 := by decide +kernel
theorem qX8_takeWord : yX8_takeWord.cls = RX8 ∧ yX8_takeWord.cls ≠ "java/lang/invoke/MethodHandle" ∧ yX8_takeWord.cls ≠ "java/lang/invoke/VarHandle" ∧ (parseMethodDescriptor yX8_takeWord.desc).map (fun d => d.parameters.length) = some 1 := by decide +kernel
theorem qX8_takeStop : yX8_takeStop.cls = RX8 ∧ yX8_takeStop.cls ≠ "java/lang/invoke/MethodHandle" ∧ yX8_takeStop.cls ≠ "java/lang/invoke/VarHandle" ∧ (parseMethodDescriptor yX8_takeStop.desc).map (fun d => d.parameters.length) = some 0 := by decide +kernel
theorem qX8_takeNumber : yX8_takeNumber.cls = RX8 ∧ yX8_takeNumber.cls ≠ "java/lang/invoke/MethodHandle" ∧ yX8_takeNumber.cls ≠ "java/lang/invoke/VarHandle" ∧ (parseMethodDescriptor yX8_takeNumber.desc).map (fun d => d.parameters.length) = some 2 := by decide +kernel
theorem qX8_takeNumberBehind : yX8_takeNumberBehind.cls = RX8 ∧ yX8_takeNumberBehind.cls ≠ "java/lang/invoke/MethodHandle" ∧ yX8_takeNumberBehind.cls ≠ "java/lang/invoke/VarHandle" ∧ (parseMethodDescriptor yX8_takeNumberBehind.desc).map (fun d => d.parameters.length) = some 4 := by decide +kernel
theorem qX8_isName : yX8_isName.cls = RX8 ∧ yX8_isName.cls ≠ "java/lang/invoke/MethodHandle" ∧ yX8_isName.cls ≠ "java/lang/invoke/VarHandle" ∧ (parseMethodDescriptor yX8_isName.desc).map (fun d => d.parameters.length) = some 0 := by decide +kernel
theorem qX8_takeNewName : yX8_takeNewName.cls = RX8 ∧ yX8_takeNewName.cls ≠ "java/lang/invoke/MethodHandle" ∧ yX8_takeNewName.cls ≠ "java/lang/invoke/VarHandle" ∧ (parseMethodDescriptor yX8_takeNewName.desc).map (fun d => d.parameters.length) = some 1 := by decide +kernel
theorem qX8_takeRoom : yX8_takeRoom.cls = RX8 ∧ yX8_takeRoom.cls ≠ "java/lang/invoke/MethodHandle" ∧ yX8_takeRoom.cls ≠ "java/lang/invoke/VarHandle" ∧ (parseMethodDescriptor yX8_takeRoom.desc).map (fun d => d.parameters.length) = some 1 := by decide +kernel
theorem qX8_takeDoor : yX8_takeDoor.cls = RX8 ∧ yX8_takeDoor.cls ≠ "java/lang/invoke/MethodHandle" ∧ yX8_takeDoor.cls ≠ "java/lang/invoke/VarHandle" ∧ (parseMethodDescriptor yX8_takeDoor.desc).map (fun d => d.parameters.length) = some 1 := by decide +kernel
theorem qX8_takeThing : yX8_takeThing.cls = RX8 ∧ yX8_takeThing.cls ≠ "java/lang/invoke/MethodHandle" ∧ yX8_takeThing.cls ≠ "java/lang/invoke/VarHandle" ∧ (parseMethodDescriptor yX8_takeThing.desc).map (fun d => d.parameters.length) = some 1 := by decide +kernel
theorem qX8_takeEnd : yX8_takeEnd.cls = RX8 ∧ yX8_takeEnd.cls ≠ "java/lang/invoke/MethodHandle" ∧ yX8_takeEnd.cls ≠ "java/lang/invoke/VarHandle" ∧ (parseMethodDescriptor yX8_takeEnd.desc).map (fun d => d.parameters.length) = some 2 := by decide +kernel
theorem qX9_lay : yX9_lay.cls = RX9 ∧ yX9_lay.cls ≠ "java/lang/invoke/MethodHandle" ∧ yX9_lay.cls ≠ "java/lang/invoke/VarHandle" ∧ (parseMethodDescriptor yX9_lay.desc).map (fun d => d.parameters.length) = some 2 := by decide +kernel
theorem qX9_isMissing : yX9_isMissing.cls = RX9 ∧ yX9_isMissing.cls ≠ "java/lang/invoke/MethodHandle" ∧ yX9_isMissing.cls ≠ "java/lang/invoke/VarHandle" ∧ (parseMethodDescriptor yX9_isMissing.desc).map (fun d => d.parameters.length) = some 0 := by decide +kernel
theorem qX9_has : yX9_has.cls = RX9 ∧ yX9_has.cls ≠ "java/lang/invoke/MethodHandle" ∧ yX9_has.cls ≠ "java/lang/invoke/VarHandle" ∧ (parseMethodDescriptor yX9_has.desc).map (fun d => d.parameters.length) = some 1 := by decide +kernel
theorem qX9_hasRow : yX9_hasRow.cls = RX9 ∧ yX9_hasRow.cls ≠ "java/lang/invoke/MethodHandle" ∧ yX9_hasRow.cls ≠ "java/lang/invoke/VarHandle" ∧ (parseMethodDescriptor yX9_hasRow.desc).map (fun d => d.parameters.length) = some 2 := by decide +kernel
theorem qX9_at : yX9_at.cls = RX9 ∧ yX9_at.cls ≠ "java/lang/invoke/MethodHandle" ∧ yX9_at.cls ≠ "java/lang/invoke/VarHandle" ∧ (parseMethodDescriptor yX9_at.desc).map (fun d => d.parameters.length) = some 1 := by decide +kernel
theorem qX9_put : yX9_put.cls = RX9 ∧ yX9_put.cls ≠ "java/lang/invoke/MethodHandle" ∧ yX9_put.cls ≠ "java/lang/invoke/VarHandle" ∧ (parseMethodDescriptor yX9_put.desc).map (fun d => d.parameters.length) = some 2 := by decide +kernel
theorem qX9_cut : yX9_cut.cls = RX9 ∧ yX9_cut.cls ≠ "java/lang/invoke/MethodHandle" ∧ yX9_cut.cls ≠ "java/lang/invoke/VarHandle" ∧ (parseMethodDescriptor yX9_cut.desc).map (fun d => d.parameters.length) = some 1 := by decide +kernel
theorem qX9_startsWith : yX9_startsWith.cls = RX9 ∧ yX9_startsWith.cls ≠ "java/lang/invoke/MethodHandle" ∧ yX9_startsWith.cls ≠ "java/lang/invoke/VarHandle" ∧ (parseMethodDescriptor yX9_startsWith.desc).map (fun d => d.parameters.length) = some 2 := by decide +kernel
theorem qJ6_bitCount_0f7a4 : yJ6_bitCount_0f7a4.cls ≠ "java/lang/invoke/MethodHandle" ∧ yJ6_bitCount_0f7a4.cls ≠ "java/lang/invoke/VarHandle" ∧ (parseMethodDescriptor yJ6_bitCount_0f7a4.desc).map (fun d => d.parameters.length) = some 1 := by decide +kernel
theorem qJ6_numberOfTrailingZeros_0f7a4 : yJ6_numberOfTrailingZeros_0f7a4.cls ≠ "java/lang/invoke/MethodHandle" ∧ yJ6_numberOfTrailingZeros_0f7a4.cls ≠ "java/lang/invoke/VarHandle" ∧ (parseMethodDescriptor yJ6_numberOfTrailingZeros_0f7a4.desc).map (fun d => d.parameters.length) = some 1 := by decide +kernel
