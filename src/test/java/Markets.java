/** Texts and objects that several tests begin with. */
final class Markets {
    /** LOT is below PASSES always; WEARS is 5 always. */
    static final String TEXT = "man ann 50 2;man bob 40 0;man cid 98 9;excuse ill 11 9 1 30;excuse aunt 8 5 2 20;"
        + "excuse rare 20 9 3 60 once;duty da ann 0 2;duty db bob 0 3;duty dc ann 2 4;duty dd cid 4 1;knows ann bob;"
        + "knows cid ann;test ta ill;passes = 100;wears = 5;coins 31;";

    private Markets() {
    }

    static ExcuseMarket fresh() {
        return Check.reader(TEXT);
    }

    /** With something of all: bought, planned, gone through, held, said, known, and bytes on the tape. */
    static ExcuseMarket rich() {
        ExcuseMarket x = fresh();
        x.buy(0);
        x.buy(1);
        x.plan(0, 0);
        x.plan(3, 1);
        x.hold(2);
        x.days(1);
        x.sell(1);
        x.hold(0);
        x.say(2, 30, 40, 0);
        x.say(3, 50, 60, 400);
        x.know(0, 0, 1);
        x.feed(0x6d616e20, 0x61203120, 0x323b2020, 0x20202020, 0x20202020);
        return x;
    }
}
