/-! the pure part: numbers -/
def iN (n : Nat) : Int32 := Int32.ofNat n
theorem i_0 : (0 : Int32) = iN 0 := rfl
theorem i_1 : (1 : Int32) = iN 1 := rfl
theorem i_2 : (2 : Int32) = iN 2 := rfl
theorem i_3 : (3 : Int32) = iN 3 := rfl
theorem i_4 : (4 : Int32) = iN 4 := rfl
theorem i_5 : (5 : Int32) = iN 5 := rfl
theorem i_6 : (6 : Int32) = iN 6 := rfl
theorem i_8 : (8 : Int32) = iN 8 := rfl
theorem i_9 : (9 : Int32) = iN 9 := rfl
theorem i_10 : (10 : Int32) = iN 10 := rfl
theorem i_16 : (16 : Int32) = iN 16 := rfl
theorem i_18 : (18 : Int32) = iN 18 := rfl
theorem i_24 : (24 : Int32) = iN 24 := rfl
theorem i_31 : (31 : Int32) = iN 31 := rfl
theorem i_32 : (32 : Int32) = iN 32 := rfl
theorem i_36 : (36 : Int32) = iN 36 := rfl
theorem i_40 : (40 : Int32) = iN 40 := rfl
theorem i_46 : (46 : Int32) = iN 46 := rfl
theorem i_48 : (48 : Int32) = iN 48 := rfl
theorem i_57 : (57 : Int32) = iN 57 := rfl
theorem i_127 : (127 : Int32) = iN 127 := rfl
theorem i_128 : (128 : Int32) = iN 128 := rfl
theorem i_143 : (143 : Int32) = iN 143 := rfl
theorem i_144 : (144 : Int32) = iN 144 := rfl
theorem i_159 : (159 : Int32) = iN 159 := rfl
theorem i_160 : (160 : Int32) = iN 160 := rfl
theorem i_192 : (192 : Int32) = iN 192 := rfl
theorem i_193 : (193 : Int32) = iN 193 := rfl
theorem i_194 : (194 : Int32) = iN 194 := rfl
theorem i_223 : (223 : Int32) = iN 223 := rfl
theorem i_224 : (224 : Int32) = iN 224 := rfl
theorem i_237 : (237 : Int32) = iN 237 := rfl
theorem i_239 : (239 : Int32) = iN 239 := rfl
theorem i_240 : (240 : Int32) = iN 240 := rfl
theorem i_244 : (244 : Int32) = iN 244 := rfl
theorem i_245 : (245 : Int32) = iN 245 := rfl
theorem i_255 : (255 : Int32) = iN 255 := rfl
theorem i_256 : (256 : Int32) = iN 256 := rfl
theorem i_1000 : (1000 : Int32) = iN 1000 := rfl
theorem i_1001 : (1001 : Int32) = iN 1001 := rfl
theorem i_2000 : (2000 : Int32) = iN 2000 := rfl
theorem i_29999 : (29999 : Int32) = iN 29999 := rfl
theorem i_30000 : (30000 : Int32) = iN 30000 := rfl
theorem i_60000 : (60000 : Int32) = iN 60000 := rfl
theorem i_65536 : (65536 : Int32) = iN 65536 := rfl
theorem i_136400 : (136400 : Int32) = iN 136400 := rfl
theorem i_202000 : (202000 : Int32) = iN 202000 := rfl
theorem i_16777216 : (16777216 : Int32) = iN 16777216 := rfl
theorem qk_2 (k : UInt8) : (k.toNat = 2) = (k = 2) := propext ⟨fun e => UInt8.toNat_inj.1 e, fun e => by rw [e]; rfl⟩
theorem qk_3 (k : UInt8) : (k.toNat = 3) = (k = 3) := propext ⟨fun e => UInt8.toNat_inj.1 e, fun e => by rw [e]; rfl⟩
theorem qk_4 (k : UInt8) : (k.toNat = 4) = (k = 4) := propext ⟨fun e => UInt8.toNat_inj.1 e, fun e => by rw [e]; rfl⟩
theorem qk_8 (k : UInt8) : (k.toNat = 8) = (k = 8) := propext ⟨fun e => UInt8.toNat_inj.1 e, fun e => by rw [e]; rfl⟩
theorem qk_16 (k : UInt8) : (k.toNat = 16) = (k = 16) := propext ⟨fun e => UInt8.toNat_inj.1 e, fun e => by rw [e]; rfl⟩
theorem qk_18 (k : UInt8) : (k.toNat = 18) = (k = 18) := propext ⟨fun e => UInt8.toNat_inj.1 e, fun e => by rw [e]; rfl⟩
