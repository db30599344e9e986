/-! what the rows of fields, stores and new objects ask of each class (laid by a program) -/
def D_X0 : List Value := [.null, .null]
theorem fw_X0 : FW 0 RX0 TX0 2 := ⟨rfl, by decide +kernel⟩
theorem pw_X0 : PW RX0 TX0 2 := ⟨tyX0, tyX0_ok, nmX0⟩
theorem nw_X0 : NW 0 RX0 TX0 2 D_X0 := ⟨fw_X0, ⟨tyX0, tyX0_ok, by decide +kernel⟩, fun X => rfl, TG_in 127 (by decide +kernel) (by decide +kernel), TG_in 52 (by decide +kernel) (by decide +kernel)⟩
def D_X1 : List Value := [.null, .null, .int 0]
theorem fw_X1 : FW 1 RX1 TX1 3 := ⟨rfl, by decide +kernel⟩
theorem pw_X1 : PW RX1 TX1 3 := ⟨tyX1, tyX1_ok, nmX1⟩
theorem nw_X1 : NW 1 RX1 TX1 3 D_X1 := ⟨fw_X1, ⟨tyX1, tyX1_ok, by decide +kernel⟩, fun X => rfl, TG_in 156 (by decide +kernel) (by decide +kernel), TG_in 54 (by decide +kernel) (by decide +kernel)⟩
def D_X2 : List Value := [.null, .null, .null, .null, .null, .int 0]
theorem fw_X2 : FW 2 RX2 TX2 6 := ⟨rfl, by decide +kernel⟩
theorem pw_X2 : PW RX2 TX2 6 := ⟨tyX2, tyX2_ok, nmX2⟩
theorem nw_X2 : NW 2 RX2 TX2 6 D_X2 := ⟨fw_X2, ⟨tyX2, tyX2_ok, by decide +kernel⟩, fun X => rfl, TG_in 99 (by decide +kernel) (by decide +kernel), TG_in 51 (by decide +kernel) (by decide +kernel)⟩
def D_X3 : List Value := [.null]
theorem fw_X3 : FW 3 RX3 TX3 1 := ⟨rfl, by decide +kernel⟩
theorem pw_X3 : PW RX3 TX3 1 := ⟨tyX3, tyX3_ok, nmX3⟩
theorem nw_X3 : NW 3 RX3 TX3 1 D_X3 := ⟨fw_X3, ⟨tyX3, tyX3_ok, by decide +kernel⟩, fun X => rfl, TG_in 198 (by decide +kernel) (by decide +kernel), TG_in 56 (by decide +kernel) (by decide +kernel)⟩
def D_X4 : List Value := [.null, .int 0]
theorem fw_X4 : FW 4 RX4 TX4 2 := ⟨rfl, by decide +kernel⟩
theorem pw_X4 : PW RX4 TX4 2 := ⟨tyX4, tyX4_ok, nmX4⟩
theorem nw_X4 : NW 4 RX4 TX4 2 D_X4 := ⟨fw_X4, ⟨tyX4, tyX4_ok, by decide +kernel⟩, fun X => rfl, TG_in 310 (by decide +kernel) (by decide +kernel), TG_in 60 (by decide +kernel) (by decide +kernel)⟩
def D_X5 : List Value := [.int 0, .int 0, .int 0, .int 0]
theorem fw_X5 : FW 5 RX5 TX5 4 := ⟨rfl, by decide +kernel⟩
theorem pw_X5 : PW RX5 TX5 4 := ⟨tyX5, tyX5_ok, nmX5⟩
theorem nw_X5 : NW 5 RX5 TX5 4 D_X5 := ⟨fw_X5, ⟨tyX5, tyX5_ok, by decide +kernel⟩, fun X => rfl, TG_in 76 (by decide +kernel) (by decide +kernel), TG_in 50 (by decide +kernel) (by decide +kernel)⟩
def D_X6 : List Value := [.null, .null, .null, .null, .int 0]
theorem fw_X6 : FW 6 RX6 TX6 5 := ⟨rfl, by decide +kernel⟩
theorem pw_X6 : PW RX6 TX6 5 := ⟨tyX6, tyX6_ok, nmX6⟩
theorem nw_X6 : NW 6 RX6 TX6 5 D_X6 := ⟨fw_X6, ⟨tyX6, tyX6_ok, by decide +kernel⟩, fun X => rfl, TG_in 174 (by decide +kernel) (by decide +kernel), TG_in 55 (by decide +kernel) (by decide +kernel)⟩
def D_X7 : List Value := [.null, .int 0]
theorem fw_X7 : FW 7 RX7 TX7 2 := ⟨rfl, by decide +kernel⟩
theorem pw_X7 : PW RX7 TX7 2 := ⟨tyX7, tyX7_ok, nmX7⟩
theorem nw_X7 : NW 7 RX7 TX7 2 D_X7 := ⟨fw_X7, ⟨tyX7, tyX7_ok, by decide +kernel⟩, fun X => rfl, TG_in 366 (by decide +kernel) (by decide +kernel), TG_in 61 (by decide +kernel) (by decide +kernel)⟩
def D_X9 : List Value := [.null, .null, .int 0]
theorem fw_X9 : FW 8 RX9 TX9 3 := ⟨rfl, by decide +kernel⟩
theorem pw_X9 : PW RX9 TX9 3 := ⟨tyX9, tyX9_ok, nmX9⟩
theorem nw_X9 : NW 8 RX9 TX9 3 D_X9 := ⟨fw_X9, ⟨tyX9, tyX9_ok, by decide +kernel⟩, fun X => rfl, TG_in 209 (by decide +kernel) (by decide +kernel), TG_in 57 (by decide +kernel) (by decide +kernel)⟩
def D_X10 : List Value := [.null, .null]
theorem fw_X10 : FW 9 RX10 TX10 2 := ⟨rfl, by decide +kernel⟩
theorem pw_X10 : PW RX10 TX10 2 := ⟨tyX10, tyX10_ok, nmX10⟩
theorem nw_X10 : NW 9 RX10 TX10 2 D_X10 := ⟨fw_X10, ⟨tyX10, tyX10_ok, by decide +kernel⟩, fun X => rfl, TG_in 141 (by decide +kernel) (by decide +kernel), TG_in 53 (by decide +kernel) (by decide +kernel)⟩
def D_X11 : List Value := [.null, .null, .null, .null, .null, .null, .null, .null, .null, .null, .null, .null, .null, .int 0]
theorem fw_X11 : FW 10 RX11 TX11 14 := ⟨rfl, by decide +kernel⟩
theorem pw_X11 : PW RX11 TX11 14 := ⟨tyX11, tyX11_ok, nmX11⟩
theorem nw_X11 : NW 10 RX11 TX11 14 D_X11 := ⟨fw_X11, ⟨tyX11, tyX11_ok, by decide +kernel⟩, fun X => rfl, TG_in 68 (by decide +kernel) (by decide +kernel), TG_in 49 (by decide +kernel) (by decide +kernel)⟩
def D_X12 : List Value := [.int 0, .int 0, .null, .null, .null, .null, .null, .null, .null, .null, .null, .null, .null, .int 0, .int 0, .null, .null, .null, .null, .null, .null, .null, .null, .null, .int 0, .null, .int 0, .null, .null, .null, .null, .null, .int 0]
theorem fw_X12 : FW 11 RX12 TX12 33 := ⟨rfl, by decide +kernel⟩
theorem pw_X12 : PW RX12 TX12 33 := ⟨tyX12, tyX12_ok, nmX12⟩
theorem nw_X12 : NW 11 RX12 TX12 33 D_X12 := ⟨fw_X12, ⟨tyX12, tyX12_ok, by decide +kernel⟩, fun X => rfl, TG_in 884 (by decide +kernel) (by decide +kernel), TG_in 58 (by decide +kernel) (by decide +kernel)⟩
