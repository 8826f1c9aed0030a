/** What the tests share: answers that are due, and ways told letter by letter. */
final class Check {
    private final String name;
    private int right = 0;
    private int wrong = 0;

    Check(String name) {
        this.name = name;
    }

    void due(String call, long got, long want) {
        if (got == want) {
            right++;
            return;
        }
        wrong++;
        if (wrong <= 40) {
            System.out.println(name + ": " + call + " answered " + got + ", due is " + want);
        }
    }

    void holds(String what, boolean so) {
        due(what, so ? 1 : 0, 1);
    }

    int asked() {
        return right + wrong;
    }

    boolean anyWrong() {
        return wrong > 0;
    }

    void end() {
        System.out.println(name + ": " + right + " as due, " + wrong + " not");
        if (wrong > 0) {
            System.exit(1);
        }
    }

    /** Tells a text letter by letter and makes a way of it. */
    static int tell(DoorIsHeld door, String text) {
        for (int i = 0; i < text.length(); i++) {
            door.letter(text.charAt(i));
        }
        return door.way();
    }

    static DoorIsHeld doorOf(String text) {
        DoorIsHeld door = new DoorIsHeld();
        tell(door, text);
        return door;
    }
}
