/** What every test of the project shares: counting what is not as due, and putting texts on sheets. */
final class Check {
    private int calls;
    private int wrong;
    private String part = "";

    void part(String name) {
        part = name;
    }

    void due(String call, long got, long want) {
        calls++;
        if (got != want) {
            wrong++;
            System.out.println(part + ": " + call + " answered " + got + ", due is " + want);
        }
    }

    void holds(String what, boolean so) {
        calls++;
        if (!so) {
            wrong++;
            System.out.println(part + ": does not hold: " + what);
        }
    }

    /** Upper and lower number of a share, told as one text. */
    void share(String call, long upper, long lower, long wantUpper, long wantLower) {
        due(call + " upper", upper, wantUpper);
        due(call + " lower", lower, wantLower);
    }

    void end(String name) {
        System.out.println(name + ": " + calls + " answers, " + wrong + " not as due");
        if (wrong != 0 || calls == 0) {
            System.exit(1);
        }
    }

    static void write(ToldOver x, int sheet, int sort, String text) {
        x.sheet(sheet, sort, text.length());
        for (int i = 0; i < text.length(); i++) {
            x.put(sheet, i, text.charAt(i));
        }
    }

    static void row(ToldOver x, int sheet, int sort, int... cells) {
        x.sheet(sheet, sort, cells.length);
        for (int i = 0; i < cells.length; i++) {
            x.put(sheet, i, cells[i]);
        }
    }

    static int tongues(ToldOver x, String text) {
        write(x, 3, 0, text);
        return x.tongues(3, 0, 0, text.length());
    }

    static int witness(ToldOver x, String text) {
        write(x, 3, 0, text);
        return x.witness(3, 0, 0, text.length());
    }
}
