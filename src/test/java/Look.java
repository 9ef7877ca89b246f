import java.util.ArrayList;
import java.util.List;

/** What can be seen of an object to which all of a list of calls was told: its answers to many questions. */
final class Look {
    private static final int PARTS = 8;
    private static final int[] DAYS = {0, 7, 364};

    private final Asked rides = new Asked();
    private final List<String> seen = new ArrayList<>();
    private int facts;
    private int children;

    /** Each part asks an object of its own, since one may be asked 512 times only. */
    static List<String> at(List<String> told, boolean withPlace) {
        List<String> all = new ArrayList<>();
        for (int part = 0; part < PARTS; part++) {
            Look look = new Look();
            for (String call : told) {
                look.rides.ask(call);
            }
            look.facts = look.rides.ask("count 1");
            look.children = look.rides.ask("count 2");
            look.ask(part);
            all.addAll(look.seen);
            if (withPlace && part == 0) {
                look.see("place");
            }
        }
        return all;
    }

    private void ask(int part) {
        switch (part) {
            case 0:
                askCounts();
                break;
            case 1:
                askHomes();
                break;
            case 2:
                askRiders();
                break;
            case 3:
                askWays();
                break;
            case 4:
                askPlans();
                break;
            case 5:
                askTender();
                break;
            case 6:
                askSnow();
                break;
            default:
                tellMore();
        }
    }

    private void see(String call) {
        seen.add(call + " = " + rides.ask(call));
    }

    private void askCounts() {
        for (int what = 0; what <= 6; what++) {
            see("count " + what);
        }
        for (int text = 0; text < 3; text++) {
            for (int what = 10; what <= 40; what += 10) {
                see("count " + (what + text));
            }
        }
        for (int day = 0; day < 365; day += 91) {
            see("force " + day);
        }
        for (int n = Math.max(0, facts - 1); n <= facts; n++) {
            see("lent " + n);
            for (int i = 0; i < 8; i++) {
                see("lentAt " + n + " " + i + " false");
                see("lentAt " + n + " " + i + " true");
            }
        }
    }

    private void askHomes() {
        for (int child = 0; child < children; child++) {
            for (int day : DAYS) {
                see("home " + child + " " + day + " " + facts);
                see("home " + child + " " + day + " " + (facts - 1));
            }
        }
    }

    private void askRiders() {
        for (int day : DAYS) {
            for (int child = 0; child < children; child++) {
                see("right " + child + " " + day + " " + facts);
                see("stop " + child + " " + day + " " + facts);
            }
            see("altered 0 " + day + " " + facts);
            for (int i = 0; i < 18; i++) {
                see("load " + i / 6 + " " + i % 6 + " " + day + " " + facts);
            }
        }
    }

    private void askWays() {
        for (int a = 0; a < 12; a++) {
            for (int b = 0; b < a; b++) {
                for (int what = 0; what < 3; what++) {
                    see("dist " + a + " " + b + " " + what + " 7 " + facts);
                }
            }
            see("row " + a + " 0 0 7 " + facts + " 1");
        }
    }

    private void askPlans() {
        for (int day : DAYS) {
            String then = " " + day + " " + facts;
            for (int school = 0; school < 3; school++) {
                see("pay " + school + then);
                see("routes " + school + then);
                see("routeSet " + school + then + " 0");
                see("routeSet " + school + then + " 1");
                see("taxis " + school + then);
                see("fewest " + school + then);
                see("shift " + school + then);
            }
            see("fleet" + then);
            see("shifted" + then);
        }
        for (int set = 1; set < 64; set++) {
            see("route 0 " + set + " 0 " + facts);
            see("good 0 " + set + " 7 " + facts);
            see("routeStop 0 " + set + " 0 " + facts + " 0");
        }
    }

    private void askTender() {
        for (int k = 1; k <= 10; k++) {
            for (int without = -1; without < 6; without++) {
                see("award " + k + " " + without);
            }
            see("cover " + k);
            for (int route = 0; route < k; route++) {
                see("awarded " + k + " -1 " + route);
                see("drives " + k + " " + route);
            }
        }
    }

    private void askSnow() {
        for (int a = 0; a < 12; a++) {
            for (int b = 0; b < 12; b++) {
                see("told " + a + " " + b);
            }
        }
        see("soonest");
    }

    /** What stands on the tape shows when it is read, what comes next by its number. */
    private void tellMore() {
        see("read 0");
        see("place");
        for (int text = 0; text < 3; text++) {
            for (int what = 10; what <= 40; what += 10) {
                see("count " + (what + text));
            }
        }
        for (int child = 0; child < children; child++) {
            see("right " + child + " 0 " + facts);
        }
        for (int b = 1; b < 12; b++) {
            see("dist 0 " + b + " 0 0 " + facts);
        }
        see("child 0 0 0 0");
        see("shut 0 0 0");
        see("bid 0 1 0");
        see("driver 0");
        see("call 0 1 1");
        see("feed 0 0 0 0 0");
    }
}
