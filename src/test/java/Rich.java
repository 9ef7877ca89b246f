/** An object that has some of everything, so that a refused call could alter much. */
final class Rich {
    static final String TEXT = "place a;place b;place c;place d;way a b 400 3;way b c 300 4 bad;way c d 200 5;"
            + "way a d 900 9;school s at d 480;school t at a 495;stop sa at a;stop sb at b;stop sc at c;"
            + "right if class<9;right if needs!=0;seats 4;taxi 9;walk 500;";

    private Rich() { }

    /** One text, 16 facts (6 children), 4 bids, 3 drivers, 5 calls. */
    static Run tell(Run run) {
        return run.read(0, TEXT)
                .ask("child 0 0 3 0; child 1 0 4 2; child 2 0 9 1; child 1 1 0 0; child 2 1 12 3; child 0 2 1 0",
                        "move 0 1 5 false; move 2 0 7 true; shut 0 3 9; part 0 1; part 1 2; annul 10",
                        "tap 0 0 7 480; tap 0 1 7 481; tap 0 2 7 500; tap 1 0 7 480; count 1 = 16",
                        "bid 0 3 50; bid 1 1 20; bid 2 2 31; bid 1 4 7; driver 3; driver 6; driver 5; leave 1 true; weigh 2 7",
                        "call 0 1 5; call 0 2 3; call 2 3 1; call 3 1 1; call 4 0 9");
    }
}
