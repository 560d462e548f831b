theorem sk_0 {z : Hp} {s : Nat} (h : LayS z s) : zK z s = (15, 0) := h.1 0 _ rfl
theorem sk_1 {z : Hp} {s : Nat} (h : LayS z s) : zK z (s + 1) = (14, 0) := h.1 1 _ rfl
theorem sk_2 {z : Hp} {s : Nat} (h : LayS z s) : zK z (s + 2) = (1, 4) := h.1 2 _ rfl
theorem sk_3 {z : Hp} {s : Nat} (h : LayS z s) : zK z (s + 3) = (1, 4) := h.1 3 _ rfl
theorem sk_4 {z : Hp} {s : Nat} (h : LayS z s) : zK z (s + 4) = (1, 4) := h.1 4 _ rfl
theorem sk_5 {z : Hp} {s : Nat} (h : LayS z s) : zK z (s + 5) = (1, 4) := h.1 5 _ rfl
theorem sk_6 {z : Hp} {s : Nat} (h : LayS z s) : zK z (s + 6) = (1, 144) := h.1 6 _ rfl
theorem sk_7 {z : Hp} {s : Nat} (h : LayS z s) : zK z (s + 7) = (1, 12) := h.1 7 _ rfl
theorem sk_8 {z : Hp} {s : Nat} (h : LayS z s) : zK z (s + 8) = (10, 0) := h.1 8 _ rfl
theorem sk_9 {z : Hp} {s : Nat} (h : LayS z s) : zK z (s + 9) = (1, 18) := h.1 9 _ rfl
theorem sk_10 {z : Hp} {s : Nat} (h : LayS z s) : zK z (s + 10) = (1, 18) := h.1 10 _ rfl
theorem sk_11 {z : Hp} {s : Nat} (h : LayS z s) : zK z (s + 11) = (1, 18) := h.1 11 _ rfl
theorem sk_12 {z : Hp} {s : Nat} (h : LayS z s) : zK z (s + 12) = (1, 18) := h.1 12 _ rfl
theorem sk_13 {z : Hp} {s : Nat} (h : LayS z s) : zK z (s + 13) = (1, 18) := h.1 13 _ rfl
theorem sk_14 {z : Hp} {s : Nat} (h : LayS z s) : zK z (s + 14) = (1, 18) := h.1 14 _ rfl
theorem sk_15 {z : Hp} {s : Nat} (h : LayS z s) : zK z (s + 15) = (8, 0) := h.1 15 _ rfl
theorem sk_16 {z : Hp} {s : Nat} (h : LayS z s) : zK z (s + 16) = (1, 6) := h.1 16 _ rfl
theorem sk_17 {z : Hp} {s : Nat} (h : LayS z s) : zK z (s + 17) = (1, 6) := h.1 17 _ rfl
theorem sk_18 {z : Hp} {s : Nat} (h : LayS z s) : zK z (s + 18) = (1, 6) := h.1 18 _ rfl
theorem sk_19 {z : Hp} {s : Nat} (h : LayS z s) : zK z (s + 19) = (12, 0) := h.1 19 _ rfl
theorem sk_20 {z : Hp} {s : Nat} (h : LayS z s) : zK z (s + 20) = (1, 4) := h.1 20 _ rfl
theorem sk_21 {z : Hp} {s : Nat} (h : LayS z s) : zK z (s + 21) = (1, 12) := h.1 21 _ rfl
theorem sk_22 {z : Hp} {s : Nat} (h : LayS z s) : zK z (s + 22) = (1, 12) := h.1 22 _ rfl
theorem sk_23 {z : Hp} {s : Nat} (h : LayS z s) : zK z (s + 23) = (1, 12) := h.1 23 _ rfl
theorem sk_24 {z : Hp} {s : Nat} (h : LayS z s) : zK z (s + 24) = (7, 0) := h.1 24 _ rfl
theorem sk_25 {z : Hp} {s : Nat} (h : LayS z s) : zK z (s + 25) = (1, 10) := h.1 25 _ rfl
theorem sk_26 {z : Hp} {s : Nat} (h : LayS z s) : zK z (s + 26) = (1, 10) := h.1 26 _ rfl
theorem sk_27 {z : Hp} {s : Nat} (h : LayS z s) : zK z (s + 27) = (1, 144) := h.1 27 _ rfl
theorem sk_28 {z : Hp} {s : Nat} (h : LayS z s) : zK z (s + 28) = (1, 144) := h.1 28 _ rfl
theorem sk_29 {z : Hp} {s : Nat} (h : LayS z s) : zK z (s + 29) = (1, 144) := h.1 29 _ rfl
theorem sk_30 {z : Hp} {s : Nat} (h : LayS z s) : zK z (s + 30) = (1, 144) := h.1 30 _ rfl
theorem sk_31 {z : Hp} {s : Nat} (h : LayS z s) : zK z (s + 31) = (1, 6) := h.1 31 _ rfl
theorem sr_0_0 {z : Hp} {s : Nat} (h : LayS z s) : zR z s 0 = some (s + 1) := h.2 (0, 0, 1) (by decide)
theorem sr_0_1 {z : Hp} {s : Nat} (h : LayS z s) : zR z s 1 = some (s + 8) := h.2 (0, 1, 8) (by decide)
theorem sr_0_2 {z : Hp} {s : Nat} (h : LayS z s) : zR z s 2 = some (s + 15) := h.2 (0, 2, 15) (by decide)
theorem sr_0_3 {z : Hp} {s : Nat} (h : LayS z s) : zR z s 3 = some (s + 19) := h.2 (0, 3, 19) (by decide)
theorem sr_0_4 {z : Hp} {s : Nat} (h : LayS z s) : zR z s 4 = some (s + 24) := h.2 (0, 4, 24) (by decide)
theorem sr_0_5 {z : Hp} {s : Nat} (h : LayS z s) : zR z s 5 = some (s + 27) := h.2 (0, 5, 27) (by decide)
theorem sr_0_6 {z : Hp} {s : Nat} (h : LayS z s) : zR z s 6 = some (s + 28) := h.2 (0, 6, 28) (by decide)
theorem sr_0_7 {z : Hp} {s : Nat} (h : LayS z s) : zR z s 7 = some (s + 29) := h.2 (0, 7, 29) (by decide)
theorem sr_0_8 {z : Hp} {s : Nat} (h : LayS z s) : zR z s 8 = some (s + 30) := h.2 (0, 8, 30) (by decide)
theorem sr_0_9 {z : Hp} {s : Nat} (h : LayS z s) : zR z s 9 = some (s + 31) := h.2 (0, 9, 31) (by decide)
theorem sr_1_0 {z : Hp} {s : Nat} (h : LayS z s) : zR z (s + 1) 0 = some (s + 2) := h.2 (1, 0, 2) (by decide)
theorem sr_1_1 {z : Hp} {s : Nat} (h : LayS z s) : zR z (s + 1) 1 = some (s + 3) := h.2 (1, 1, 3) (by decide)
theorem sr_1_2 {z : Hp} {s : Nat} (h : LayS z s) : zR z (s + 1) 2 = some (s + 4) := h.2 (1, 2, 4) (by decide)
theorem sr_1_3 {z : Hp} {s : Nat} (h : LayS z s) : zR z (s + 1) 3 = some (s + 5) := h.2 (1, 3, 5) (by decide)
theorem sr_1_4 {z : Hp} {s : Nat} (h : LayS z s) : zR z (s + 1) 4 = some (s + 6) := h.2 (1, 4, 6) (by decide)
theorem sr_1_5 {z : Hp} {s : Nat} (h : LayS z s) : zR z (s + 1) 5 = some (s + 7) := h.2 (1, 5, 7) (by decide)
theorem sr_8_0 {z : Hp} {s : Nat} (h : LayS z s) : zR z (s + 8) 0 = some (s + 9) := h.2 (8, 0, 9) (by decide)
theorem sr_8_1 {z : Hp} {s : Nat} (h : LayS z s) : zR z (s + 8) 1 = some (s + 10) := h.2 (8, 1, 10) (by decide)
theorem sr_8_2 {z : Hp} {s : Nat} (h : LayS z s) : zR z (s + 8) 2 = some (s + 11) := h.2 (8, 2, 11) (by decide)
theorem sr_8_3 {z : Hp} {s : Nat} (h : LayS z s) : zR z (s + 8) 3 = some (s + 12) := h.2 (8, 3, 12) (by decide)
theorem sr_8_4 {z : Hp} {s : Nat} (h : LayS z s) : zR z (s + 8) 4 = some (s + 13) := h.2 (8, 4, 13) (by decide)
theorem sr_8_5 {z : Hp} {s : Nat} (h : LayS z s) : zR z (s + 8) 5 = some (s + 14) := h.2 (8, 5, 14) (by decide)
theorem sr_15_0 {z : Hp} {s : Nat} (h : LayS z s) : zR z (s + 15) 0 = some (s + 16) := h.2 (15, 0, 16) (by decide)
theorem sr_15_1 {z : Hp} {s : Nat} (h : LayS z s) : zR z (s + 15) 1 = some (s + 17) := h.2 (15, 1, 17) (by decide)
theorem sr_15_2 {z : Hp} {s : Nat} (h : LayS z s) : zR z (s + 15) 2 = some (s + 18) := h.2 (15, 2, 18) (by decide)
theorem sr_19_0 {z : Hp} {s : Nat} (h : LayS z s) : zR z (s + 19) 0 = some (s + 20) := h.2 (19, 0, 20) (by decide)
theorem sr_19_1 {z : Hp} {s : Nat} (h : LayS z s) : zR z (s + 19) 1 = some (s + 21) := h.2 (19, 1, 21) (by decide)
theorem sr_19_2 {z : Hp} {s : Nat} (h : LayS z s) : zR z (s + 19) 2 = some (s + 22) := h.2 (19, 2, 22) (by decide)
theorem sr_19_3 {z : Hp} {s : Nat} (h : LayS z s) : zR z (s + 19) 3 = some (s + 23) := h.2 (19, 3, 23) (by decide)
theorem sr_24_0 {z : Hp} {s : Nat} (h : LayS z s) : zR z (s + 24) 0 = some (s + 25) := h.2 (24, 0, 25) (by decide)
theorem sr_24_1 {z : Hp} {s : Nat} (h : LayS z s) : zR z (s + 24) 1 = some (s + 26) := h.2 (24, 1, 26) (by decide)
