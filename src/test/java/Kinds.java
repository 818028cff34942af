/** The kinds of activities, for the tests that name them. */
interface Kinds {
    int DRIVE = 0;
    int IMAGE = 1;
    int TOUCH = 2;
    int SEND = 3;
    int WAIT = 4;
    int SLEEP = 5;
    int HEAT = 6;
    int CLEAN = 7;
}
