theorem d_Law_law_820 : decode b_Law_law 820 = .ok (.iaload, 1) := by decide +kernel
theorem d_Law_law_821 : decode b_Law_law 821 = .ok (.aload_n 0, 1) := by decide +kernel
theorem d_Law_law_822 : decode b_Law_law 822 = .ok (.iload_n 3, 1) := by decide +kernel
theorem d_Law_law_823 : decode b_Law_law 823 = .ok (.iconst 3, 1) := by decide +kernel
theorem d_Law_law_824 : decode b_Law_law 824 = .ok (.iadd, 1) := by decide +kernel
theorem d_Law_law_825 : decode b_Law_law 825 = .ok (.iaload, 1) := by decide +kernel
theorem d_Law_law_826 : decode b_Law_law 826 = .ok (.invokevirtual 107, 3) := by decide +kernel
theorem d_Law_law_829 : decode b_Law_law 829 = .ok (.if_icmp .eq 127, 3) := by decide +kernel
theorem d_Law_law_832 : decode b_Law_law 832 = .ok (.iconst 0, 1) := by decide +kernel
theorem d_Law_law_833 : decode b_Law_law 833 = .ok (.ireturn, 1) := by decide +kernel
theorem d_Law_law_834 : decode b_Law_law 834 = .ok (.aload_n 1, 1) := by decide +kernel
theorem d_Law_law_835 : decode b_Law_law 835 = .ok (.aload_n 0, 1) := by decide +kernel
theorem d_Law_law_836 : decode b_Law_law 836 = .ok (.iload_n 3, 1) := by decide +kernel
theorem d_Law_law_837 : decode b_Law_law 837 = .ok (.iconst 1, 1) := by decide +kernel
theorem d_Law_law_838 : decode b_Law_law 838 = .ok (.iadd, 1) := by decide +kernel
theorem d_Law_law_839 : decode b_Law_law 839 = .ok (.iaload, 1) := by decide +kernel
theorem d_Law_law_840 : decode b_Law_law 840 = .ok (.aload_n 0, 1) := by decide +kernel
theorem d_Law_law_841 : decode b_Law_law 841 = .ok (.iload_n 3, 1) := by decide +kernel
theorem d_Law_law_842 : decode b_Law_law 842 = .ok (.iconst 2, 1) := by decide +kernel
theorem d_Law_law_843 : decode b_Law_law 843 = .ok (.iadd, 1) := by decide +kernel
theorem d_Law_law_844 : decode b_Law_law 844 = .ok (.iaload, 1) := by decide +kernel
theorem d_Law_law_845 : decode b_Law_law 845 = .ok (.aload_n 0, 1) := by decide +kernel
theorem d_Law_law_846 : decode b_Law_law 846 = .ok (.iload_n 3, 1) := by decide +kernel
theorem d_Law_law_847 : decode b_Law_law 847 = .ok (.iconst 3, 1) := by decide +kernel
theorem d_Law_law_848 : decode b_Law_law 848 = .ok (.iadd, 1) := by decide +kernel
theorem d_Law_law_849 : decode b_Law_law 849 = .ok (.iaload, 1) := by decide +kernel
theorem d_Law_law_850 : decode b_Law_law 850 = .ok (.invokevirtual 108, 3) := by decide +kernel
theorem d_Law_law_853 : decode b_Law_law 853 = .ok (.aload_n 2, 1) := by decide +kernel
theorem d_Law_law_854 : decode b_Law_law 854 = .ok (.aload_n 0, 1) := by decide +kernel
theorem d_Law_law_855 : decode b_Law_law 855 = .ok (.iload_n 3, 1) := by decide +kernel
theorem d_Law_law_856 : decode b_Law_law 856 = .ok (.iconst 1, 1) := by decide +kernel
theorem d_Law_law_857 : decode b_Law_law 857 = .ok (.iadd, 1) := by decide +kernel
theorem d_Law_law_858 : decode b_Law_law 858 = .ok (.iaload, 1) := by decide +kernel
theorem d_Law_law_859 : decode b_Law_law 859 = .ok (.aload_n 0, 1) := by decide +kernel
theorem d_Law_law_860 : decode b_Law_law 860 = .ok (.iload_n 3, 1) := by decide +kernel
theorem d_Law_law_861 : decode b_Law_law 861 = .ok (.iconst 2, 1) := by decide +kernel
theorem d_Law_law_862 : decode b_Law_law 862 = .ok (.iadd, 1) := by decide +kernel
theorem d_Law_law_863 : decode b_Law_law 863 = .ok (.iaload, 1) := by decide +kernel
theorem d_Law_law_864 : decode b_Law_law 864 = .ok (.aload_n 0, 1) := by decide +kernel
theorem d_Law_law_865 : decode b_Law_law 865 = .ok (.iload_n 3, 1) := by decide +kernel
theorem d_Law_law_866 : decode b_Law_law 866 = .ok (.iconst 3, 1) := by decide +kernel
theorem d_Law_law_867 : decode b_Law_law 867 = .ok (.iadd, 1) := by decide +kernel
theorem d_Law_law_868 : decode b_Law_law 868 = .ok (.iaload, 1) := by decide +kernel
theorem d_Law_law_869 : decode b_Law_law 869 = .ok (.invokevirtual 111, 3) := by decide +kernel
theorem d_Law_law_872 : decode b_Law_law 872 = .ok (.if_icmp .eq 84, 3) := by decide +kernel
theorem d_Law_law_875 : decode b_Law_law 875 = .ok (.iconst 0, 1) := by decide +kernel
theorem d_Law_law_876 : decode b_Law_law 876 = .ok (.ireturn, 1) := by decide +kernel
theorem d_Law_law_877 : decode b_Law_law 877 = .ok (.aload_n 1, 1) := by decide +kernel
theorem d_Law_law_878 : decode b_Law_law 878 = .ok (.aload_n 0, 1) := by decide +kernel
theorem d_Law_law_879 : decode b_Law_law 879 = .ok (.iload_n 3, 1) := by decide +kernel
theorem d_Law_law_880 : decode b_Law_law 880 = .ok (.iconst 1, 1) := by decide +kernel
theorem d_Law_law_881 : decode b_Law_law 881 = .ok (.iadd, 1) := by decide +kernel
theorem d_Law_law_882 : decode b_Law_law 882 = .ok (.iaload, 1) := by decide +kernel
theorem d_Law_law_883 : decode b_Law_law 883 = .ok (.invokevirtual 112, 3) := by decide +kernel
theorem d_Law_law_886 : decode b_Law_law 886 = .ok (.aload_n 2, 1) := by decide +kernel
theorem d_Law_law_887 : decode b_Law_law 887 = .ok (.aload_n 0, 1) := by decide +kernel
theorem d_Law_law_888 : decode b_Law_law 888 = .ok (.iload_n 3, 1) := by decide +kernel
theorem d_Law_law_889 : decode b_Law_law 889 = .ok (.iconst 1, 1) := by decide +kernel
theorem d_Law_law_890 : decode b_Law_law 890 = .ok (.iadd, 1) := by decide +kernel
theorem d_Law_law_891 : decode b_Law_law 891 = .ok (.iaload, 1) := by decide +kernel
theorem d_Law_law_892 : decode b_Law_law 892 = .ok (.invokevirtual 115, 3) := by decide +kernel
theorem d_Law_law_895 : decode b_Law_law 895 = .ok (.if_icmp .eq 61, 3) := by decide +kernel
theorem d_Law_law_898 : decode b_Law_law 898 = .ok (.iconst 0, 1) := by decide +kernel
theorem d_Law_law_899 : decode b_Law_law 899 = .ok (.ireturn, 1) := by decide +kernel
theorem d_Law_law_900 : decode b_Law_law 900 = .ok (.aload_n 1, 1) := by decide +kernel
theorem d_Law_law_901 : decode b_Law_law 901 = .ok (.aload_n 0, 1) := by decide +kernel
theorem d_Law_law_902 : decode b_Law_law 902 = .ok (.iload_n 3, 1) := by decide +kernel
theorem d_Law_law_903 : decode b_Law_law 903 = .ok (.iconst 1, 1) := by decide +kernel
theorem d_Law_law_904 : decode b_Law_law 904 = .ok (.iadd, 1) := by decide +kernel
theorem d_Law_law_905 : decode b_Law_law 905 = .ok (.iaload, 1) := by decide +kernel
theorem d_Law_law_906 : decode b_Law_law 906 = .ok (.aload_n 0, 1) := by decide +kernel
theorem d_Law_law_907 : decode b_Law_law 907 = .ok (.iload_n 3, 1) := by decide +kernel
theorem d_Law_law_908 : decode b_Law_law 908 = .ok (.iconst 2, 1) := by decide +kernel
theorem d_Law_law_909 : decode b_Law_law 909 = .ok (.iadd, 1) := by decide +kernel
theorem d_Law_law_910 : decode b_Law_law 910 = .ok (.iaload, 1) := by decide +kernel
theorem d_Law_law_911 : decode b_Law_law 911 = .ok (.invokevirtual 116, 3) := by decide +kernel
theorem d_Law_law_914 : decode b_Law_law 914 = .ok (.aload_n 2, 1) := by decide +kernel
theorem d_Law_law_915 : decode b_Law_law 915 = .ok (.aload_n 0, 1) := by decide +kernel
theorem d_Law_law_916 : decode b_Law_law 916 = .ok (.iload_n 3, 1) := by decide +kernel
theorem d_Law_law_917 : decode b_Law_law 917 = .ok (.iconst 1, 1) := by decide +kernel
theorem d_Law_law_918 : decode b_Law_law 918 = .ok (.iadd, 1) := by decide +kernel
theorem d_Law_law_919 : decode b_Law_law 919 = .ok (.iaload, 1) := by decide +kernel
theorem d_Law_law_920 : decode b_Law_law 920 = .ok (.aload_n 0, 1) := by decide +kernel
theorem d_Law_law_921 : decode b_Law_law 921 = .ok (.iload_n 3, 1) := by decide +kernel
theorem d_Law_law_922 : decode b_Law_law 922 = .ok (.iconst 2, 1) := by decide +kernel
theorem d_Law_law_923 : decode b_Law_law 923 = .ok (.iadd, 1) := by decide +kernel
theorem d_Law_law_924 : decode b_Law_law 924 = .ok (.iaload, 1) := by decide +kernel
theorem d_Law_law_925 : decode b_Law_law 925 = .ok (.invokevirtual 119, 3) := by decide +kernel
theorem d_Law_law_928 : decode b_Law_law 928 = .ok (.if_icmp .eq 28, 3) := by decide +kernel
theorem d_Law_law_931 : decode b_Law_law 931 = .ok (.iconst 0, 1) := by decide +kernel
theorem d_Law_law_932 : decode b_Law_law 932 = .ok (.ireturn, 1) := by decide +kernel
theorem d_Law_law_933 : decode b_Law_law 933 = .ok (.aload_n 1, 1) := by decide +kernel
theorem d_Law_law_934 : decode b_Law_law 934 = .ok (.aload_n 0, 1) := by decide +kernel
theorem d_Law_law_935 : decode b_Law_law 935 = .ok (.iload_n 3, 1) := by decide +kernel
theorem d_Law_law_936 : decode b_Law_law 936 = .ok (.iconst 1, 1) := by decide +kernel
theorem d_Law_law_937 : decode b_Law_law 937 = .ok (.iadd, 1) := by decide +kernel
theorem d_Law_law_938 : decode b_Law_law 938 = .ok (.iaload, 1) := by decide +kernel
theorem d_Law_law_939 : decode b_Law_law 939 = .ok (.invokevirtual 120, 3) := by decide +kernel
theorem d_Law_law_942 : decode b_Law_law 942 = .ok (.aload_n 2, 1) := by decide +kernel
theorem d_Law_law_943 : decode b_Law_law 943 = .ok (.aload_n 0, 1) := by decide +kernel
theorem d_Law_law_944 : decode b_Law_law 944 = .ok (.iload_n 3, 1) := by decide +kernel
theorem d_Law_law_945 : decode b_Law_law 945 = .ok (.iconst 1, 1) := by decide +kernel
theorem d_Law_law_946 : decode b_Law_law 946 = .ok (.iadd, 1) := by decide +kernel
theorem d_Law_law_947 : decode b_Law_law 947 = .ok (.iaload, 1) := by decide +kernel
theorem d_Law_law_948 : decode b_Law_law 948 = .ok (.invokevirtual 123, 3) := by decide +kernel
theorem d_Law_law_951 : decode b_Law_law 951 = .ok (.if_icmp .eq 5, 3) := by decide +kernel
theorem d_Law_law_954 : decode b_Law_law 954 = .ok (.iconst 0, 1) := by decide +kernel
theorem d_Law_law_955 : decode b_Law_law 955 = .ok (.ireturn, 1) := by decide +kernel
theorem d_Law_law_956 : decode b_Law_law 956 = .ok (.iinc 3 6, 3) := by decide +kernel
theorem d_Law_law_959 : decode b_Law_law 959 = .ok (.goto (-941), 3) := by decide +kernel
theorem d_Law_law_962 : decode b_Law_law 962 = .ok (.iconst 1, 1) := by decide +kernel
theorem d_Law_law_963 : decode b_Law_law 963 = .ok (.ireturn, 1) := by decide +kernel
