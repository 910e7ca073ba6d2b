theorem zc2_X7_9 : znw RX7 9 1 := ⟨(RX1, TX1, 14), rfl, zc_X7_9, zTm 791 (by decide +kernel) rfl, zTm 120 (by decide +kernel) rfl⟩
theorem zXr10 {d : List Nat} {G : Nat → Int → Option Nat} (h : zK zXt d G) : zRk d G 10 := ⟨rfl, rfl, rfl, rfl, (zX_10_0 h).2.1, (zX_10_0 h).2.2, (zX_10_1 h).2.2, (zX_10_2 h).2.2, (zX_10_0 h).1, (zX_10_1 h).1, (zX_10_2 h).1⟩
theorem zXr14 {d : List Nat} {G : Nat → Int → Option Nat} (h : zK zXt d G) : zRk d G 14 := ⟨rfl, rfl, rfl, rfl, (zX_14_0 h).2.1, (zX_14_0 h).2.2, (zX_14_1 h).2.2, (zX_14_2 h).2.2, (zX_14_0 h).1, (zX_14_1 h).1, (zX_14_2 h).1⟩
