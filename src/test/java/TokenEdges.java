/** The tokens and the grammar of a text: the first half of the terms I. */
final class TokenEdges {
    private static final String[] WORDS = {"place", "way", "bad", "school", "at", "stop", "right", "if", "seats", "ride",
        "walk", "taxi", "nurse", "bus", "or", "and", "not", "class", "needs", "far", "safe", "day"};
    private static final String[] OTHERS = {";", "+", "-", "*", "==", "!=", "<", "<=", "(", ")", "q", "7", "?"};
    private static final String MAP = "place a;place b;";
    private static Run run;

    private TokenEdges() { }

    static void all() {
        bytes();
        longestTokens();
        blanks();
        names();
        words();
        ints();
        signs();
        noTokens();
        tells();
        rules();
        conds();
        sums();
    }

    private static void holds(String sentence) {
        run = Run.of("I", sentence);
    }

    private static void fault(String text, int number, int place) {
        run.fault(text, number, place);
    }

    private static void fine(String text) {
        fault(text, 0, -1);
    }

    private static void bytes() {
        holds("A TEXT has 2,000 bytes at most.");
        run.again().text(" ".repeat(1992) + "place a;").ask("count 6 = 2000; read 0 = 0; count 10 = 1");
        fault(" ".repeat(1999) + "?", 1, 1999);
        fault(" ".repeat(1993) + "place a", 1, 2000);
    }

    private static void longestTokens() {
        holds("TOKENS, the longest that can be,");
        fault("placea;", 1, 0);
        fault("place place;", 1, 6);
        fine("place placea;");
        fine("place badx;");
        fault(MAP + "way a b 1 1badx;", 1, 27);
        fine(MAP + "way a b 1 1bad;");
        fault("bus 12;", 1, 6);
        fine("bus 1 2;");
        fine("right if 1<=1;");
        fault("right if 1< =1;", 1, 12);
        fault("right if 1= =1;", 1, 10);
        fault("right if 1<==1;", 1, 12);
        fault("right if 1====1;", 1, 12);
        fault("right if 1===1;", 1, 12);
    }

    private static void blanks() {
        holds("with blanks (9, 10, 13, 32) between or not:");
        for (char blank : new char[] {9, 10, 13, 32}) {
            fine("" + blank + "seats" + blank + "7" + blank + blank + ";" + blank);
            fault("sea" + blank + "ts 7;", 1, 0);
        }
        fine("seats7;place\tz;bus1 2;right if not(class)+1<=needs*2;");
        for (char other : new char[] {0, 1, 8, 11, 12, 14, 31, 33, 127, 128, 133, 160, 255}) {
            fault("seats" + other + "7;", 1, 5);
            fault("seats 7;" + other, 1, 8);
        }
    }

    private static void names() {
        holds("NAMES (letters a .. z, 8 at most,");
        fine("place a;place z;place azazazaz;place zzzzzzzz;");
        fault("place abcdefghi;", 1, 6);
        fault("place " + "z".repeat(40) + ";", 1, 6);
        for (char other : new char[] {'`', '{', 'A', 'Z', '_', '@', '[', 225}) {
            fault("place " + other + ";", 1, 6);
            fault("place a" + other + ";", 1, 7);
            fault("place abcdefgh" + other + ";", 1, 14);
        }
        // names of eight letters are other names if but one letter is
        fine("place aaaaaaaa;place aaaaaaab;place baaaaaaa;place aaaaaaa;");
        run.again().read(0, "place b;place aaaaaaab;place ab;way b ab 5 1;").ask("dist 0 2 0 0 0 = 5; dist 0 1 0 0 0 = -2");
    }

    private static void words() {
        holds("none of the words in quotes),");
        for (String word : WORDS) {
            fault("place " + word + ";", 1, 6);
            fault("place a;stop " + word + " at a;", 1, 13);
            fine("place " + word + "x;");
            fine("place x" + word + ";");
            fine("place " + word.substring(1) + "q;");
        }
        fine("place plac;place text;place tell;place cond;place metres;place schools;place no;place i;");
    }

    private static void ints() {
        holds("INTS (1 to 4 digits),");
        fine("walk 0;walk 9;walk 10;walk 999;walk 0000;walk 0009;");
        run.again().read(0, MAP + "way a b 9999 9;").ask("dist 0 1 0 0 0 = 9999");
        run.again().read(0, MAP + "way a b 0001 0099;").ask("dist 0 1 0 0 0 = 1; dist 0 1 2 0 0 = 99");
        fault("walk 00000;", 1, 5);
        fault("walk 10000;", 1, 5);
        fault("walk 12345678901234567890;", 1, 5);
        fault("bus 1 99999;", 1, 6);
        for (char other : new char[] {'/', ':', '.', ','}) {
            fault("walk " + other + ";", 1, 5);
            fault("walk 1" + other + ";", 1, 6);
        }
        fault("walk -1;", 1, 5);
    }

    private static void signs() {
        holds("SIGNS ; + - * == != < <= ( ) .");
        fine("right if (1+2)*3-4==5;right if 1!=2;right if 1<2;right if 1<=2;");
        for (String other : new String[] {"=", "!", ">", ">=", "=>", "=<", "&", "|", "^", "/", "%", ",", ".", "[", "]", "~"}) {
            fault("right if 1" + other + "1;", 1, 10);
        }
        fault("right if 1<>1;", 1, 11);
        fault("right if 1! =1;", 1, 10);
        fault("right if 1!1==1;", 1, 10);
        fault("seats 1:", 1, 7);
        fault("right if 1=", 1, 10);
        fault("right if 1!", 1, 10);
        fault("right if 1<", 1, 11);
    }

    private static void noTokens() {
        holds("A longer one, all else, is no TOKEN.");
        fault("placeplace a;", 1, 0);
        fault("seats 12345;", 1, 6);
        fault("right if classroom==1;", 1, 9);
        fault("right if class==10000;", 1, 16);
        fault("\u00ff", 1, 0);
        fault("  \"", 1, 2);
        fault("seats 1;\u0000", 1, 8);
    }

    /** Each token of a tell in its place: none other goes on there, nor does the text's end. */
    private static void shape(String ahead, String tell, String also) {
        String[] tokens = tell.split(" ");
        String text = ahead;
        for (int i = 0; i < tokens.length; i++) {
            if (i > 0) {
                fault(text, 1, text.length());
                fault(text + "\n", 1, text.length() + 1);
                noOther(text, tokens[i], i == tokens.length - 1 ? also : "");
            }
            text += tokens[i] + " ";
        }
        fine(text);
    }

    private static void noOther(String text, String due, String also) {
        for (String word : WORDS) {
            if (!word.equals(due) && !word.equals(also)) {
                fault(text + word + " ;", 1, text.length());
            }
        }
        for (String other : OTHERS) {
            if (!kind(other).equals(kind(due)) && !(due.equals("bad") && other.equals(";"))) {
                fault(text + other + " ;", 1, text.length());
            }
        }
    }

    private static String kind(String token) {
        return token.matches("[0-9]+") ? "INT" : token.matches("[a-z]") ? "NAME" : token;
    }

    private static void tells() {
        holds("text: {TELL}.");
        fine("");
        fine("\r\n");
        fine("place a;");
        fine("walk 1; taxi 1; ".repeat(66));
        for (String other : new String[] {"bad", "at", "if", "or", "and", "not", "class", "needs", "far", "safe", "day"}) {
            fault("seats 1;" + other, 1, 8);
        }
        for (String other : OTHERS) {
            fault(other, 1, 0);
            fault("seats 1;" + other, 1, 8);
        }
        holds("TELL: 'place' NAME ';' |");
        shape("", "place q ;", "");
        holds("'way' NAME NAME INT INT ['bad'] ';' |");
        shape(MAP, "way a b 1 2 ;", "bad");
        shape(MAP, "way a b 1 2 bad ;", "");
        holds("'school' NAME 'at' NAME INT ';' |");
        shape(MAP, "school s at a 1 ;", "");
        holds("'stop' NAME 'at' NAME ';' |");
        shape(MAP, "stop s at a ;", "");
        holds("'right' 'if' COND ';' |");
        fine("right if 1==1;");
        fault("right ", 1, 6);
        noOther("right ", "if", "");
        fault("right if ;", 1, 9);
        fault("right 1==1;", 1, 6);
    }

    private static void shapes(String... tells) {
        for (String tell : tells) {
            shape("", tell, "");
        }
    }

    private static void rules() {
        holds("('seats' | 'ride' | 'walk' | 'taxi' | 'nurse') INT ';' |");
        shapes("seats 1 ;", "ride 1 ;", "walk 1 ;", "taxi 1 ;", "nurse 1 ;");
        holds("'bus' INT INT ';'.");
        shapes("bus 1 2 ;");
    }

    /** What may stand next behind the beginning of a right: all of a list and nothing else. */
    private static void next(String text, String allowed) {
        String ahead = "right if " + text + " ";
        fault(ahead, 1, ahead.length());
        for (String token : (String.join(" ", WORDS) + " " + String.join(" ", OTHERS)).split(" ")) {
            boolean may = (" " + allowed + " ").contains(" " + token + " ");
            String whole = ahead + token;
            if (!may) {
                fault(whole, 1, ahead.length());
            } else if (token.equals(";")) {
                fine(whole);
            } else {
                fault(whole, 1, whole.length());
            }
        }
    }

    private static void conds() {
        String unit = "7 class needs far safe day (";
        String behindSide = "+ - * and or ;";
        holds("COND: ALL {'or' ALL}.");
        next("1==1 or", "not " + unit);
        next("1==1 or 2==2", behindSide);
        fine("right if 1==1 or 1==1 or 1==1;");
        fault("right if (1==1 or 1==2);", 1, 11);
        holds("ALL: LIT {'and' LIT}.");
        next("1==1 and", "not " + unit);
        next("1==1 and 2==2", behindSide);
        fine("right if 1==1 and 1==1 or 1==1 and 1==1;");
        holds("LIT: 'not' LIT | E ('==' | '!=' | '<' | '<=') E.");
        fault("right if ", 1, 9);
        next("not", "not " + unit);
        next("1==1 and not not", "not " + unit);
        next("class", "+ - * == != < <=");
        next("1==", unit);
        next("1!=", unit);
        next("1<", unit);
        next("1<=", unit);
        next("1==1", behindSide);
        next("not 1==far", behindSide);
        fine("right if not not not 1==1;");
    }

    private static void sums() {
        String unit = "7 class needs far safe day (";
        holds("E: PART {('+' | '-') PART}.");
        next("1+", unit);
        next("1-", unit);
        next("1==1-", unit);
        next("1+1", "+ - * == != < <=");
        fine("right if 1+1-1+1-1==1-1+1;");
        holds("PART: UNIT {'*' UNIT}.");
        next("1*", unit);
        next("1==1*", unit);
        next("1*1", "+ - * == != < <=");
        holds("UNIT: INT | VAR | '(' E ')'.");
        next("(", unit);
        next("(1", "+ - * )");
        next("(1+1", "+ - * )");
        next("((1)", "+ - * )");
        next("(1)", "+ - * == != < <=");
        next("1==(1", "+ - * )");
        next("1==(1)", "+ - * and or ;");
        holds("VAR: 'class' | 'needs' | 'far' | 'safe' | 'day'.");
        for (String var : new String[] {"class", "needs", "far", "safe", "day"}) {
            next(var, "+ - * == != < <=");
            next("1==" + var, "+ - * and or ;");
        }
        for (String other : new String[] {"place", "bad", "seats", "bus", "if", "metres", "minutes"}) {
            fault("right if " + other + "==1;", 1, 9);
        }
    }
}
