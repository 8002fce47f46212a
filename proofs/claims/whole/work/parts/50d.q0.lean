/-! the pure part: numbers -/
def iN (n : Nat) : Int32 := Int32.ofNat n
theorem i_0 : (0 : Int32) = iN 0 := id rfl
theorem i_1 : (1 : Int32) = iN 1 := id rfl
theorem i_2 : (2 : Int32) = iN 2 := id rfl
theorem i_3 : (3 : Int32) = iN 3 := id rfl
theorem i_4 : (4 : Int32) = iN 4 := id rfl
theorem i_5 : (5 : Int32) = iN 5 := id rfl
theorem i_6 : (6 : Int32) = iN 6 := id rfl
theorem i_7 : (7 : Int32) = iN 7 := id rfl
theorem i_8 : (8 : Int32) = iN 8 := id rfl
theorem i_9 : (9 : Int32) = iN 9 := id rfl
theorem i_10 : (10 : Int32) = iN 10 := id rfl
theorem i_11 : (11 : Int32) = iN 11 := id rfl
theorem i_12 : (12 : Int32) = iN 12 := id rfl
theorem i_13 : (13 : Int32) = iN 13 := id rfl
theorem i_14 : (14 : Int32) = iN 14 := id rfl
theorem i_15 : (15 : Int32) = iN 15 := id rfl
theorem i_16 : (16 : Int32) = iN 16 := id rfl
theorem i_17 : (17 : Int32) = iN 17 := id rfl
theorem i_18 : (18 : Int32) = iN 18 := id rfl
theorem i_19 : (19 : Int32) = iN 19 := id rfl
theorem i_20 : (20 : Int32) = iN 20 := id rfl
theorem i_21 : (21 : Int32) = iN 21 := id rfl
theorem i_22 : (22 : Int32) = iN 22 := id rfl
theorem i_23 : (23 : Int32) = iN 23 := id rfl
theorem i_24 : (24 : Int32) = iN 24 := id rfl
theorem i_25 : (25 : Int32) = iN 25 := id rfl
theorem i_26 : (26 : Int32) = iN 26 := id rfl
theorem i_27 : (27 : Int32) = iN 27 := id rfl
theorem i_28 : (28 : Int32) = iN 28 := id rfl
theorem i_29 : (29 : Int32) = iN 29 := id rfl
theorem i_30 : (30 : Int32) = iN 30 := id rfl
theorem i_31 : (31 : Int32) = iN 31 := id rfl
theorem i_32 : (32 : Int32) = iN 32 := id rfl
theorem i_33 : (33 : Int32) = iN 33 := id rfl
theorem i_34 : (34 : Int32) = iN 34 := id rfl
theorem i_35 : (35 : Int32) = iN 35 := id rfl
theorem i_36 : (36 : Int32) = iN 36 := id rfl
theorem i_37 : (37 : Int32) = iN 37 := id rfl
theorem i_38 : (38 : Int32) = iN 38 := id rfl
theorem i_39 : (39 : Int32) = iN 39 := id rfl
theorem i_40 : (40 : Int32) = iN 40 := id rfl
theorem i_41 : (41 : Int32) = iN 41 := id rfl
theorem i_42 : (42 : Int32) = iN 42 := id rfl
theorem i_43 : (43 : Int32) = iN 43 := id rfl
theorem i_44 : (44 : Int32) = iN 44 := id rfl
theorem i_45 : (45 : Int32) = iN 45 := id rfl
theorem i_46 : (46 : Int32) = iN 46 := id rfl
theorem i_47 : (47 : Int32) = iN 47 := id rfl
theorem i_48 : (48 : Int32) = iN 48 := id rfl
theorem i_49 : (49 : Int32) = iN 49 := id rfl
theorem i_50 : (50 : Int32) = iN 50 := id rfl
theorem i_51 : (51 : Int32) = iN 51 := id rfl
theorem i_52 : (52 : Int32) = iN 52 := id rfl
theorem i_53 : (53 : Int32) = iN 53 := id rfl
theorem i_54 : (54 : Int32) = iN 54 := id rfl
theorem i_55 : (55 : Int32) = iN 55 := id rfl
theorem i_56 : (56 : Int32) = iN 56 := id rfl
theorem i_57 : (57 : Int32) = iN 57 := id rfl
theorem i_58 : (58 : Int32) = iN 58 := id rfl
theorem i_59 : (59 : Int32) = iN 59 := id rfl
theorem i_60 : (60 : Int32) = iN 60 := id rfl
theorem i_61 : (61 : Int32) = iN 61 := id rfl
theorem i_62 : (62 : Int32) = iN 62 := id rfl
theorem i_63 : (63 : Int32) = iN 63 := id rfl
theorem i_64 : (64 : Int32) = iN 64 := id rfl
theorem i_99 : (99 : Int32) = iN 99 := id rfl
theorem i_100 : (100 : Int32) = iN 100 := id rfl
theorem i_127 : (127 : Int32) = iN 127 := id rfl
theorem i_128 : (128 : Int32) = iN 128 := id rfl
theorem i_143 : (143 : Int32) = iN 143 := id rfl
theorem i_144 : (144 : Int32) = iN 144 := id rfl
theorem i_159 : (159 : Int32) = iN 159 := id rfl
theorem i_160 : (160 : Int32) = iN 160 := id rfl
theorem i_192 : (192 : Int32) = iN 192 := id rfl
theorem i_193 : (193 : Int32) = iN 193 := id rfl
theorem i_194 : (194 : Int32) = iN 194 := id rfl
theorem i_199 : (199 : Int32) = iN 199 := id rfl
theorem i_200 : (200 : Int32) = iN 200 := id rfl
theorem i_201 : (201 : Int32) = iN 201 := id rfl
theorem i_223 : (223 : Int32) = iN 223 := id rfl
theorem i_224 : (224 : Int32) = iN 224 := id rfl
theorem i_237 : (237 : Int32) = iN 237 := id rfl
theorem i_239 : (239 : Int32) = iN 239 := id rfl
theorem i_240 : (240 : Int32) = iN 240 := id rfl
theorem i_244 : (244 : Int32) = iN 244 := id rfl
theorem i_245 : (245 : Int32) = iN 245 := id rfl
theorem i_255 : (255 : Int32) = iN 255 := id rfl
theorem i_256 : (256 : Int32) = iN 256 := id rfl
theorem i_400 : (400 : Int32) = iN 400 := id rfl
theorem i_800 : (800 : Int32) = iN 800 := id rfl
theorem i_999 : (999 : Int32) = iN 999 := id rfl
theorem i_1000 : (1000 : Int32) = iN 1000 := id rfl
theorem i_1001 : (1001 : Int32) = iN 1001 := id rfl
theorem i_1023 : (1023 : Int32) = iN 1023 := id rfl
theorem i_1024 : (1024 : Int32) = iN 1024 := id rfl
theorem i_1999 : (1999 : Int32) = iN 1999 := id rfl
theorem i_2000 : (2000 : Int32) = iN 2000 := id rfl
theorem i_2001 : (2001 : Int32) = iN 2001 := id rfl
theorem i_4100 : (4100 : Int32) = iN 4100 := id rfl
theorem i_13533 : (13533 : Int32) = iN 13533 := id rfl
theorem i_29999 : (29999 : Int32) = iN 29999 := id rfl
theorem i_30000 : (30000 : Int32) = iN 30000 := id rfl
theorem i_40000 : (40000 : Int32) = iN 40000 := id rfl
theorem i_44000 : (44000 : Int32) = iN 44000 := id rfl
theorem i_60000 : (60000 : Int32) = iN 60000 := id rfl
theorem i_65536 : (65536 : Int32) = iN 65536 := id rfl
theorem i_80000 : (80000 : Int32) = iN 80000 := id rfl
theorem i_82000 : (82000 : Int32) = iN 82000 := id rfl
theorem i_120000 : (120000 : Int32) = iN 120000 := id rfl
theorem i_122000 : (122000 : Int32) = iN 122000 := id rfl
theorem i_124000 : (124000 : Int32) = iN 124000 := id rfl
theorem i_128200 : (128200 : Int32) = iN 128200 := id rfl
theorem i_132400 : (132400 : Int32) = iN 132400 := id rfl
theorem i_134400 : (134400 : Int32) = iN 134400 := id rfl
theorem i_136400 : (136400 : Int32) = iN 136400 := id rfl
theorem i_162000 : (162000 : Int32) = iN 162000 := id rfl
theorem i_202000 : (202000 : Int32) = iN 202000 := id rfl
theorem i_16777216 : (16777216 : Int32) = iN 16777216 := id rfl
theorem qk_0 (k : UInt8) : (k.toNat = 0) = (k = 0) := propext ⟨fun e => UInt8.toNat_inj.1 e, fun e => by rw [e]; rfl⟩
theorem qk_1 (k : UInt8) : (k.toNat = 1) = (k = 1) := propext ⟨fun e => UInt8.toNat_inj.1 e, fun e => by rw [e]; rfl⟩
theorem qk_2 (k : UInt8) : (k.toNat = 2) = (k = 2) := propext ⟨fun e => UInt8.toNat_inj.1 e, fun e => by rw [e]; rfl⟩
theorem qk_3 (k : UInt8) : (k.toNat = 3) = (k = 3) := propext ⟨fun e => UInt8.toNat_inj.1 e, fun e => by rw [e]; rfl⟩
theorem qk_4 (k : UInt8) : (k.toNat = 4) = (k = 4) := propext ⟨fun e => UInt8.toNat_inj.1 e, fun e => by rw [e]; rfl⟩
theorem qk_5 (k : UInt8) : (k.toNat = 5) = (k = 5) := propext ⟨fun e => UInt8.toNat_inj.1 e, fun e => by rw [e]; rfl⟩
theorem qk_6 (k : UInt8) : (k.toNat = 6) = (k = 6) := propext ⟨fun e => UInt8.toNat_inj.1 e, fun e => by rw [e]; rfl⟩
theorem qk_7 (k : UInt8) : (k.toNat = 7) = (k = 7) := propext ⟨fun e => UInt8.toNat_inj.1 e, fun e => by rw [e]; rfl⟩
theorem qk_8 (k : UInt8) : (k.toNat = 8) = (k = 8) := propext ⟨fun e => UInt8.toNat_inj.1 e, fun e => by rw [e]; rfl⟩
theorem qk_9 (k : UInt8) : (k.toNat = 9) = (k = 9) := propext ⟨fun e => UInt8.toNat_inj.1 e, fun e => by rw [e]; rfl⟩
theorem qk_10 (k : UInt8) : (k.toNat = 10) = (k = 10) := propext ⟨fun e => UInt8.toNat_inj.1 e, fun e => by rw [e]; rfl⟩
theorem qk_11 (k : UInt8) : (k.toNat = 11) = (k = 11) := propext ⟨fun e => UInt8.toNat_inj.1 e, fun e => by rw [e]; rfl⟩
theorem qk_12 (k : UInt8) : (k.toNat = 12) = (k = 12) := propext ⟨fun e => UInt8.toNat_inj.1 e, fun e => by rw [e]; rfl⟩
theorem qk_13 (k : UInt8) : (k.toNat = 13) = (k = 13) := propext ⟨fun e => UInt8.toNat_inj.1 e, fun e => by rw [e]; rfl⟩
theorem qk_14 (k : UInt8) : (k.toNat = 14) = (k = 14) := propext ⟨fun e => UInt8.toNat_inj.1 e, fun e => by rw [e]; rfl⟩
theorem qk_15 (k : UInt8) : (k.toNat = 15) = (k = 15) := propext ⟨fun e => UInt8.toNat_inj.1 e, fun e => by rw [e]; rfl⟩
theorem qk_16 (k : UInt8) : (k.toNat = 16) = (k = 16) := propext ⟨fun e => UInt8.toNat_inj.1 e, fun e => by rw [e]; rfl⟩
theorem qk_17 (k : UInt8) : (k.toNat = 17) = (k = 17) := propext ⟨fun e => UInt8.toNat_inj.1 e, fun e => by rw [e]; rfl⟩
theorem qk_18 (k : UInt8) : (k.toNat = 18) = (k = 18) := propext ⟨fun e => UInt8.toNat_inj.1 e, fun e => by rw [e]; rfl⟩
theorem qk_19 (k : UInt8) : (k.toNat = 19) = (k = 19) := propext ⟨fun e => UInt8.toNat_inj.1 e, fun e => by rw [e]; rfl⟩
theorem qk_20 (k : UInt8) : (k.toNat = 20) = (k = 20) := propext ⟨fun e => UInt8.toNat_inj.1 e, fun e => by rw [e]; rfl⟩
theorem qk_21 (k : UInt8) : (k.toNat = 21) = (k = 21) := propext ⟨fun e => UInt8.toNat_inj.1 e, fun e => by rw [e]; rfl⟩
theorem qk_22 (k : UInt8) : (k.toNat = 22) = (k = 22) := propext ⟨fun e => UInt8.toNat_inj.1 e, fun e => by rw [e]; rfl⟩
theorem qk_23 (k : UInt8) : (k.toNat = 23) = (k = 23) := propext ⟨fun e => UInt8.toNat_inj.1 e, fun e => by rw [e]; rfl⟩
theorem qk_24 (k : UInt8) : (k.toNat = 24) = (k = 24) := propext ⟨fun e => UInt8.toNat_inj.1 e, fun e => by rw [e]; rfl⟩
theorem qk_25 (k : UInt8) : (k.toNat = 25) = (k = 25) := propext ⟨fun e => UInt8.toNat_inj.1 e, fun e => by rw [e]; rfl⟩
theorem qk_26 (k : UInt8) : (k.toNat = 26) = (k = 26) := propext ⟨fun e => UInt8.toNat_inj.1 e, fun e => by rw [e]; rfl⟩
theorem qk_27 (k : UInt8) : (k.toNat = 27) = (k = 27) := propext ⟨fun e => UInt8.toNat_inj.1 e, fun e => by rw [e]; rfl⟩
theorem qk_28 (k : UInt8) : (k.toNat = 28) = (k = 28) := propext ⟨fun e => UInt8.toNat_inj.1 e, fun e => by rw [e]; rfl⟩
theorem qk_29 (k : UInt8) : (k.toNat = 29) = (k = 29) := propext ⟨fun e => UInt8.toNat_inj.1 e, fun e => by rw [e]; rfl⟩
theorem qk_30 (k : UInt8) : (k.toNat = 30) = (k = 30) := propext ⟨fun e => UInt8.toNat_inj.1 e, fun e => by rw [e]; rfl⟩
theorem qk_31 (k : UInt8) : (k.toNat = 31) = (k = 31) := propext ⟨fun e => UInt8.toNat_inj.1 e, fun e => by rw [e]; rfl⟩
theorem qk_32 (k : UInt8) : (k.toNat = 32) = (k = 32) := propext ⟨fun e => UInt8.toNat_inj.1 e, fun e => by rw [e]; rfl⟩
theorem qk_36 (k : UInt8) : (k.toNat = 36) = (k = 36) := propext ⟨fun e => UInt8.toNat_inj.1 e, fun e => by rw [e]; rfl⟩
theorem qk_46 (k : UInt8) : (k.toNat = 46) = (k = 46) := propext ⟨fun e => UInt8.toNat_inj.1 e, fun e => by rw [e]; rfl⟩
theorem qk_48 (k : UInt8) : (k.toNat = 48) = (k = 48) := propext ⟨fun e => UInt8.toNat_inj.1 e, fun e => by rw [e]; rfl⟩
