/-! the pure part: numbers -/
def iN (n : Nat) : Int32 := Int32.ofNat n
theorem i_0 : (0 : Int32) = iN 0 := rfl
theorem i_1 : (1 : Int32) = iN 1 := rfl
theorem i_2 : (2 : Int32) = iN 2 := rfl
theorem i_3 : (3 : Int32) = iN 3 := rfl
theorem i_4 : (4 : Int32) = iN 4 := rfl
theorem i_5 : (5 : Int32) = iN 5 := rfl
theorem i_6 : (6 : Int32) = iN 6 := rfl
theorem i_8 : (8 : Int32) = iN 8 := rfl
theorem i_10 : (10 : Int32) = iN 10 := rfl
theorem i_16 : (16 : Int32) = iN 16 := rfl
theorem i_18 : (18 : Int32) = iN 18 := rfl
theorem i_24 : (24 : Int32) = iN 24 := rfl
theorem i_31 : (31 : Int32) = iN 31 := rfl
theorem i_32 : (32 : Int32) = iN 32 := rfl
theorem i_40 : (40 : Int32) = iN 40 := rfl
theorem i_255 : (255 : Int32) = iN 255 := rfl
theorem i_256 : (256 : Int32) = iN 256 := rfl
theorem i_1000 : (1000 : Int32) = iN 1000 := rfl
theorem i_65536 : (65536 : Int32) = iN 65536 := rfl
theorem i_136400 : (136400 : Int32) = iN 136400 := rfl
theorem i_202000 : (202000 : Int32) = iN 202000 := rfl
theorem i_16777216 : (16777216 : Int32) = iN 16777216 := rfl
