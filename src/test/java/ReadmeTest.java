/** The calls that README.md shows answer as it says. */
public final class ReadmeTest {
    private static final Due T = new Due("ReadmeTest");

    public static void main(String[] args) {
        PressDays press = new PressDays();
        T.due("job(0, 3, 0, 1, 10)", press.job(0, 3, 0, 1, 10), 0);
        T.due("job(1, 2, 1, 2, 20)", press.job(1, 2, 1, 2, 20), 1);
        T.due("ends(1)", press.ends(1), 2);
        T.due("best(0)", press.best(0), 30);
        T.due("best(1)", press.best(1), 8);
        T.due("sure(0)", press.sure(0), 9);
        T.due("sure(1)", press.sure(1), 16);
        T.due("goes()", press.goes(), 0);
        T.due("feed(4266070367042889248, 8)", press.feed(4266070367042889248L, 8), 8);
        T.due("board()", press.board(), 0);
        T.due("set(2, 5)", press.set(2, 5), 4);
        String text = "slots 2; fine 4; wedding 3 by 1 for 20; 2 black by 0 for 9;";
        T.due("board() of the text", Due.board(press, text), 2);
        T.end();
    }
}
