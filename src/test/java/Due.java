/** Counts the answers that are not the due ones and tells each of them. */
final class Due {
    private int wrong;
    private int looked;
    private String about = "";

    void about(String what) {
        about = what;
    }

    void is(String call, long got, long want) {
        looked++;
        if (got != want) {
            wrong++;
            System.out.println(about + ": " + call + " answered " + got + ", due is " + want);
        }
    }

    void holds(String what, boolean true_) {
        is(what, true_ ? 1 : 0, 1);
    }

    int wrong() {
        return wrong;
    }

    void end() {
        System.out.println(looked + " answers looked at, " + wrong + " not as due");
        if (wrong != 0) System.exit(1);
    }

    static void say(SofaStair stair, String text) {
        for (char sign : text.toCharArray()) stair.say(sign);
    }
}
