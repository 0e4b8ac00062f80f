theorem px_in0 : ∀ w ∈ u_ws RX0 TX0 10, w ∈ px_T := by decide +kernel
theorem px_in1 : ∀ w ∈ u_ws RX1 TX1 16, w ∈ px_T := by decide +kernel
theorem px_in2 : ∀ w ∈ u_ws RX2 TX2 8, w ∈ px_T := by decide +kernel
theorem px_in3 : ∀ w ∈ u_ws RX3 TX3 3, w ∈ px_T := by decide +kernel
theorem px_in4 : ∀ w ∈ u_ws RX4 TX4 3, w ∈ px_T := by decide +kernel
theorem px_in5 : ∀ w ∈ u_ws RX5 TX5 8, w ∈ px_T := by decide +kernel
theorem px_in6 : ∀ w ∈ u_ws RX6 TX6 58, w ∈ px_T := by decide +kernel
