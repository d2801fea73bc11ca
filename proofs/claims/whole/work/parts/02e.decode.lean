theorem zd_Law_law_681 : decode code 681 = .ok (.goto (-653), 3) := by decide +kernel
theorem zd_Law_law_684 : decode code 684 = .ok (.iconst 1, 1) := by decide +kernel
theorem zd_Law_law_685 : decode code 685 = .ok (.ireturn, 1) := by decide +kernel
