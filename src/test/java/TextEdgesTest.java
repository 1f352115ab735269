/** The edges of TEXTS (promises 2 and 12): the FIRST FAULT, and where one just ends too soon. */
public final class TextEdgesTest {
    private static final Check check = new Check();
    private static final String TWO = "w2;90;09;b;90;09";
    private static final int[] CODES = {
        'w', 'w' - 1, 'w' + 1, 'b', 'b' - 1, 'b' + 1, 'v', 'p', 'p' - 1, 'p' + 1, 'W', 'B', ';', ';' + 1, ',',
        '0', '1', '2', '3', '4', '5', '6', '7', '8', '9', '0' - 1, '9' + 1, ' ', 0, -1, -'w', 'w' + 256, '0' + 256,
        ';' + 65536, Integer.MIN_VALUE, Integer.MAX_VALUE
    };

    public static void main(String[] args) {
        howManyWords();
        twelveOfOneWord();
        noneOfOneWord();
        signs();
        witnessRows();
        please();
        everyPrefix();
        everyCode();
        longestTexts();
        takenOrNot();
        check.end("TextEdgesTest");
    }

    private static void tongues(String text, int due) {
        ToldOver x = new ToldOver();
        check.due("tongues of " + text, Check.tongues(x, text), due);
        check.due("WORDS by " + text, x.many(0), Math.max(0, due));
    }

    private static void witness(String text, int due) {
        ToldOver x = new ToldOver();
        Check.tongues(x, TWO);
        check.due("witness of " + text, Check.witness(x, text), due);
        check.due("whether there is one by " + text, x.many(2), Math.max(0, due));
    }

    private static String text(int words, String line) {
        return "w" + words + (";" + line).repeat(words) + ";b" + (";" + line).repeat(words);
    }

    private static void howManyWords() {
        check.part("1, how many WORDS");
        tongues(text(2, "01"), 2);
        tongues(text(1, "1"), -101);
        tongues(text(0, ""), -101);
        tongues(text(6, "000001"), 6);
        tongues(text(7, "0000001"), -101);
        tongues("w:", -101);
        tongues("w/", -101);
        tongues(text(3, "001"), 3);
        tongues(text(4, "0001"), 4);
        tongues(text(5, "00001"), 5);
        tongues("w12", -101);
        tongues("w22", -102);
    }

    private static void twelveOfOneWord() {
        check.part("1, twelve of a WORD");
        tongues("w2;93;90;b;90;90", 2);
        tongues("w2;94;90;b;90;90", -104);
        tongues("w2;39;90;b;90;90", 2);
        tongues("w2;49;90;b;90;90", -104);
        tongues("w2;90;93;b;90;90", 2);
        tongues("w2;90;94;b;90;90", -107);
        tongues("w2;90;90;b;93;90", 2);
        tongues("w2;90;90;b;94;90", -112);
        tongues("w2;90;90;b;90;93", 2);
        tongues("w2;90;90;b;90;94", -115);
        tongues("w3;930;111;111;b;111;111;111", 3);
        tongues("w3;940;111;111;b;111;111;111", -104);
        tongues("w3;931;111;111;b;111;111;111", -105);
        tongues("w3;921;111;111;b;111;111;111", 3);
        tongues("w3;444;111;111;b;111;111;111", 3);
        tongues("w3;445;111;111;b;111;111;111", -105);
        tongues(text(6, "222222"), 6);
        tongues(text(6, "222223"), -108);
        tongues(text(6, "930000"), 6);
        tongues(text(6, "930001"), -108);
        tongues(text(6, "930010"), -107);
    }

    private static void noneOfOneWord() {
        check.part("1, none of a WORD");
        tongues("w2;01;90;b;90;90", 2);
        tongues("w2;00;90;b;90;90", -104);
        tongues("w2;10;90;b;90;90", 2);
        tongues("w2;90;01;b;90;90", 2);
        tongues("w2;90;00;b;90;90", -107);
        tongues("w2;90;90;b;01;90", 2);
        tongues("w2;90;90;b;00;90", -112);
        tongues("w2;90;90;b;90;10", 2);
        tongues("w2;90;90;b;90;00", -115);
        tongues(text(6, "000010"), 6);
        tongues(text(6, "000000"), -108);
        tongues("w6;00000", -108);
        tongues("w6;00000;", -108);
        // What one WORD lacks is not made up for by the one ahead.
        tongues("w3;120;000;111;b;111;111;111", -109);
    }

    private static void signs() {
        check.part("1, signs");
        tongues("", -100);
        tongues("w", -101);
        tongues("v2;90;09;b;90;09", -100);
        tongues("x2;90;09;b;90;09", -100);
        tongues("w2:90;09;b;90;09", -102);
        tongues("w2;90<09;b;90;09", -105);
        tongues("w2;90;09;a;90;09", -109);
        tongues("w2;90;09;c;90;09", -109);
        tongues("w2;90;09;;90;09", -109);
        tongues("w2;90;09;9", -109);
        tongues("w2;90;09b", -108);
        tongues("w2;90;09;b90", -110);
        tongues("w2;9;09;b;90;09", -104);
        tongues("w2;900;09;b;90;09", -105);
        tongues("w2;/0;09;b;90;09", -103);
        tongues("w2;:0;09;b;90;09", -103);
        tongues("w2;9/;09;b;90;09", -104);
        tongues("w2;9:;09;b;90;09", -104);
        tongues("w2;90;09;b;90;0", -115);
        tongues("w2;90;09;b;90;09", 2);
        tongues("w2;90;09;b;90;090", -116);
        tongues("w2;90;09;b;90;09;", -116);
        tongues("w2;90;09;b;90;09;b", -116);
    }

    private static void witnessRows() {
        check.part("3, rows");
        witness("v;93;01;p0", 1);
        witness("v;94;01;p0", -103);
        witness("v;00;01;p0", -103);
        witness("v;10;39;p0", 1);
        witness("v;10;49;p0", -106);
        witness("v;10;00;p0", -106);
        witness("v;10;01;p", -109);
        witness("v;10;01;", -108);
        witness("v;10;01", -107);
        witness("v;10;01p0", -107);
        witness("v;10;01;o0", -108);
        witness("v;10;01;q0", -108);
        witness("v;10;01;01;p0", -108);
        witness("v;10;p0", -105);
        witness("v;101;011;p0", -104);
        witness("u;10;01;p0", -100);
        witness("w;10;01;p0", -100);
        witness("", -100);
        witness("v", -101);
        witness("v10;01;p0", -101);
        witness("v2;10;01;p0", -101);
    }

    private static void please() {
        check.part("3, PLEASE");
        for (int p = 0; p < 10; p++) {
            ToldOver x = new ToldOver();
            Check.tongues(x, TWO);
            check.due("p" + p, Check.witness(x, "v;01;01;p" + p), 1);
            check.due("PLEASE", x.many(4), p);
            check.due("says 0 instead", x.answers(0, 0), 12 * p);
            check.due("says 1", x.answers(0, 1), 12 - p);
            check.due("SILENT", x.answers(0, 2), 11 * (12 - p));
        }
        witness("v;10;01;p/", -109);
        witness("v;10;01;p:", -109);
        witness("v;10;01;p90", -110);
        witness("v;10;01;p9;", -110);
    }

    // ---- every place, by what may stand where

    /** What stands where: n for how many WORDS, d for a digit of a WORD, p for PLEASE, else itself. */
    private static String places(int words, boolean ofWitness) {
        String table = (";" + "d".repeat(words)).repeat(words);
        return ofWitness ? "v" + table + ";P#" : "wn" + table + ";b" + table;
    }

    private static int firstFault(int[] text, int words, boolean ofWitness) {
        String places = places(words, ofWitness);
        int sum = 0;
        for (int k = 0; k < text.length; k++) {
            char place = k < places.length() ? places.charAt(k) : '.';
            boolean lastOfWord = place == 'd' && (k + 1 == places.length() || places.charAt(k + 1) != 'd');
            int digit = text[k] - '0';
            sum = place == 'd' ? sum + digit : 0;
            boolean fits = switch (place) {
                case '.' -> false;
                case 'n' -> digit == words;
                case '#' -> digit >= 0 && digit <= 9;
                case 'd' -> digit >= 0 && digit <= 9 && sum <= 12 && !(lastOfWord && sum == 0);
                case 'P' -> text[k] == 'p';
                default -> text[k] == place;
            };
            if (!fits) {
                return k;
            }
        }
        return text.length < places.length() ? text.length : -1;
    }

    /** Digits that are different from WORD to WORD; some lack something to 12, some nothing. */
    private static String sample(int words, boolean ofWitness) {
        StringBuilder s = new StringBuilder();
        int word = 0;
        int to = 0;
        for (char place : places(words, ofWitness).toCharArray()) {
            if (place != 'd') {
                s.append(place == 'n' ? (char) ('0' + words) : place == 'P' ? 'p' : place == '#' ? '7' : place);
                word += to > 0 ? 1 : 0;
                to = 0;
                continue;
            }
            int digit = to == word % words ? 9 - word % 3 : to == (word + 1) % words ? 3 - word % 2 : 0;
            s.append((char) ('0' + digit));
            to++;
        }
        return s.toString();
    }

    private static int[] codes(String text) {
        return text.chars().toArray();
    }

    private static ToldOver court(int words, int[] text) {
        ToldOver x = new ToldOver();
        Check.tongues(x, sample(words, false));
        Check.row(x, 0, 2, text);
        return x;
    }

    private static int read(ToldOver x, boolean ofWitness, int n) {
        return ofWitness ? x.witness(0, 2, 0, n) : x.tongues(0, 2, 0, n);
    }

    private static void everyPrefix() {
        check.part("1 and 3, every prefix");
        for (int k = 4; k < 14; k++) {
            int words = k / 2;
            boolean ofWitness = k % 2 == 1;
            int[] text = codes(sample(words, ofWitness) + "0");
            ToldOver x = court(words, text);
            int whole = text.length - 1;
            for (int n = 0; n < whole; n++) {
                check.due("just ends too soon, " + n, read(x, ofWitness, n), -100 - n);
            }
            check.due("one code too many", read(x, ofWitness, whole + 1), -100 - whole);
            check.due("no WITNESS yet", x.many(2), 0);
            check.due("taken", read(x, ofWitness, whole), ofWitness ? 1 : words);
        }
    }

    private static void everyCode() {
        check.part("1 and 3, every code at every place");
        for (int k = 4; k < 14; k++) {
            int words = k / 2;
            boolean ofWitness = k % 2 == 1;
            int[] text = codes(sample(words, ofWitness));
            for (int place = 0; place < text.length; place++) {
                ToldOver x = court(words, text);
                for (int code : CODES) {
                    boolean isOtherCount = !ofWitness && place == 1 && code >= '2' && code <= '6';
                    if (!isOtherCount) {
                        codeAt(x, text, place, code, words, ofWitness);
                    }
                }
            }
        }
    }

    private static void codeAt(ToldOver x, int[] text, int place, int code, int words, boolean ofWitness) {
        int[] other = text.clone();
        other[place] = code;
        x.put(0, place, code);
        int fault = firstFault(other, words, ofWitness);
        int due = fault >= 0 ? -100 - fault : ofWitness ? 1 : words;
        check.due((ofWitness ? "witness of " : "tongues of ") + words + ", code " + code + " at " + place,
                read(x, ofWitness, text.length), due);
    }

    private static void longestTexts() {
        check.part("1 and 3, the longest");
        String longest = sample(6, false);
        check.due("codes of TONGUES", longest.length(), 88);
        ToldOver x = new ToldOver();
        Check.write(x, 0, 1, " ".repeat(120 - 88) + longest);
        check.due("one beyond the end", x.tongues(0, 1, 33, 88), -13);
        check.due("one too few", x.tongues(0, 1, 33, 87), -100);
        check.due("one ahead of it", x.tongues(0, 1, 31, 88), -100);
        check.due("just at the end", x.tongues(0, 1, 32, 88), 6);
        String witness = sample(6, true);
        Check.write(x, 1, 2, " ".repeat(120 - witness.length()) + witness);
        int from = 120 - witness.length();
        check.due("one beyond the end", x.witness(1, 2, from + 1, witness.length()), -13);
        check.due("just at the end", x.witness(1, 2, from, witness.length()), 1);
    }

    /** The last digit decides: with it all is made anew, without it nothing is changed. */
    private static void takenOrNot() {
        check.part("1 and 3, taken or not");
        notTaken("tongues", "w2;10;01;b;10;00", -115);
        ToldOver x = Court.open(Court.Kind.WHOLE);
        check.due("taken", Check.tongues(x, "w2;10;01;b;10;01"), 2);
        many(x, 2, 3, 0, 0, 0);
        check.due("TRACE stays", x.trace(), 63);
        check.due("SHEETS stay", x.cell(0, 27, 0), '1');
        check.due("how TIRED stays", x.ofInterpreter(2, 1), 9);
        notTaken("witness", "v;100;010;001;p", -115);
        x = Court.open(Court.Kind.WHOLE);
        check.due("taken", Check.witness(x, "v;100;010;001;p0"), 1);
        many(x, 3, 3, 1, 0, 0);
    }

    private static void notTaken(String name, String text, int due) {
        ToldOver same = Court.open(Court.Kind.WHOLE);
        Check.write(same, 3, 1, text);
        ToldOver x = Court.open(Court.Kind.WHOLE);
        Check.write(x, 3, 1, text);
        check.due("not taken", Court.call(x, name, 3, 1, 0, text.length()), due);
        check.holds("nothing is changed", Court.seen(x).equals(Court.seen(same)));
    }

    private static void many(ToldOver x, int... due) {
        for (int what = 0; what < due.length; what++) {
            check.due("many " + what, x.many(what), due[what]);
        }
    }
}
