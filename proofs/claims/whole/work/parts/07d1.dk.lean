theorem zdk_1 : (List.range' 67 58).all zdk = true := by decide +kernel
